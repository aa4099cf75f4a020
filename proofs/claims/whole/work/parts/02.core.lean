/-! A small machine over the real one: objects by numbers, fields and cells by places; one world for class and reference. -/
def gT : List Cond := lw_tbl.filter goodWord
theorem gT_in {w : Cond} (h : w ∈ lw_tbl) (g : goodWord w = true) : w ∈ gT := List.mem_filter.mpr ⟨h, g⟩
theorem gT_good {w : Cond} (h : w ∈ gT) : goodWord w = true := (List.mem_filter.mp h).2
abbrev gMem : Type := (Nat → Nat → Int32) × (Nat → Nat → Int64) × (Nat → Nat)
abbrev gLoc : Type := List (Option Value)
abbrev gRes : Type := Option (Nat × gLoc × List Value × gMem)
abbrev gStp : Type := gLoc → List Value → gMem → gRes
abbrev gG : Type := va_G × (Nat → ClassId) × (Nat → Nat)
/-- kinds: (0, k) an object of class k; (1, n) int[n]; (2, n) byte[n]; (3, n) boolean[n]; (4, n) long[n]; (5, n) Numbers[n]; (6, n) Town[n]; (7, n) int[n][] -/
def gShT (i : Nat) : Nat × Nat := bif Nat.beq i 0 then (0, 7) else bif Nat.ble i 3 then (1, 6) else bif Nat.ble i 6 then (1, 7) else bif Nat.ble i 9 then (1, 5) else bif Nat.beq i 10 then (0, 0) else (1, 31)
def gShL : List (Nat × Nat) := [(0, 8), (0, 5), (0, 6), (2, 800), (5, 4), (6, 3), (0, 4), (4, 60), (0, 4), (4, 60), (0, 4), (4, 60), (0, 4), (4, 60), (0, 2), (1, 38), (1, 38), (1, 38), (1, 38), (1, 12), (1, 12), (1, 12)]
def gShM : List (Nat × Nat) := [(0, 9), (1, 4), (1, 4), (4, 240), (4, 60), (2, 800), (1, 5), (1, 45), (1, 90), (1, 105), (1, 25), (1, 50), (1, 600), (3, 3), (1, 432), (1, 6), (1, 6), (1, 72), (1, 64), (1, 64), (1, 30)]
def gSh (o : Nat) : Nat × Nat :=
  bif Nat.blt o 22 then gShL.getD o (9, 0)
  else bif Nat.blt o 61 then (bif Nat.beq ((o - 22) % 13) 0 then (7, 12) else (1, 6))
  else bif Nat.blt o 66 then (bif Nat.beq o 61 then (0, 1) else bif Nat.blt o 64 then (1, 64) else bif Nat.beq o 64 then (0, 3) else (1, 30))
  else bif Nat.blt o 141 then gShT ((o - 66) % 15)
  else gShM.getD (o - 141) (9, 0)
def gN : Nat := 162
def gTy (k j : Nat) : FieldType := match k with
  | 0 => tyX0 j
  | 1 => tyX1 j
  | 2 => tyX2 j
  | 3 => tyX3 j
  | 4 => tyX4 j
  | 5 => tyX5 j
  | 6 => tyX6 j
  | 7 => tyX7 j
  | 8 => tyX8 j
  | _ => tyX9 j
def gNf (k : Nat) : Nat := match k with
  | 0 => 5
  | 1 => 2
  | 2 => 17
  | 3 => 4
  | 4 => 3
  | 5 => 8
  | 6 => 2
  | 7 => 19
  | 8 => 8
  | _ => 49
/-- the reference in field j of object o of class k -/
def gRf (M : gMem) (k o j : Nat) : Nat := match k with
  | 0 => o + 1 + j
  | 1 => 62 + j
  | 2 => match j with
    | 6 => 15
    | 7 => 16
    | 8 => 17
    | 9 => 18
    | 10 => 19
    | 11 => 20
    | 12 => 21
    | 13 => 22
    | 14 => 35
    | _ => 48
  | 3 => 65
  | 4 => o + 1
  | 5 => match j with
    | 0 => 2
    | _ => M.2.2 1
  | 6 => 3
  | 7 => match j with
    | 9 => o + 1
    | 10 => o + 2
    | 11 => o + 3
    | 12 => o + 4
    | 13 => o + 5
    | 14 => o + 6
    | 15 => o + 7
    | 16 => o + 8
    | 17 => o + 9
    | _ => o + 10
  | 8 => match j with
    | 0 => 1
    | 1 => 4
    | 2 => 5
    | 3 => 14
    | 4 => 61
    | 5 => 64
    | _ => M.2.2 0
  | _ => match j with
    | 1 => 142
    | 2 => 143
    | 3 => 144
    | 4 => 145
    | 5 => 146
    | 16 => 147
    | 17 => 148
    | 18 => 149
    | 19 => 150
    | 20 => 151
    | 21 => 152
    | 22 => 153
    | 23 => 154
    | 33 => 155
    | 34 => 156
    | 35 => 157
    | 36 => 158
    | 37 => 159
    | 38 => 160
    | _ => 161
/-- element i of a row of references -/
def gRa (o i : Nat) : Nat := match o with
  | 4 => 6 + 2 * i
  | 5 => 66 + 15 * i
  | _ => o + 1 + i
def gFv (G : gG) (M : gMem) (k o j : Nat) : Value := match gTy k j with
  | .int => .int (M.1 o j)
  | .boolean => .int (M.1 o j)
  | .long => .long (M.2.1 o j)
  | _ => .ref (G.2.2 (gRf M k o j))
def gCl (G : gG) (M : gMem) (o : Nat) : va_E := match gSh o with
  | (0, k) => .inr (k, (List.range (gNf k)).map (gFv G M k o))
  | (1, n) => .inl (G.2.1 0, n, .inl (M.1 o))
  | (2, n) => .inl (G.2.1 1, n, .inl (M.1 o))
  | (3, n) => .inl (G.2.1 2, n, .inl (M.1 o))
  | (4, n) => .inl (G.2.1 3, n, .inr (.inl (M.2.1 o)))
  | (5, n) => .inl (G.2.1 4, n, .inr (.inr (.inr (.inr (fun i => some (G.2.2 (gRa o i)))))))
  | (6, n) => .inl (G.2.1 5, n, .inr (.inr (.inr (.inr (fun i => some (G.2.2 (gRa o i)))))))
  | (_, n) => .inl (G.2.1 6, n, .inr (.inr (.inr (.inr (fun i => some (G.2.2 (gRa o i)))))))
def gWs (G : gG) (M : gMem) : va_W := (List.range gN).map (fun o => (G.2.2 o, gCl G M o))
def gTys (G : gG) : List (ClassId × FieldType) := [(G.2.1 0, .int), (G.2.1 1, .byte), (G.2.1 2, .boolean), (G.2.1 3, .long), (G.2.1 4, .object RX4), (G.2.1 5, .object RX7), (G.2.1 6, .array .int)]
def gA (G : gG) : Nat → Prop := fun q => ∃ o, o < gN ∧ q = G.2.2 o
def gInj (G : gG) : Prop := ∀ i j, i < gN → j < gN → G.2.2 i = G.2.2 j → i = j
def gRl (G : gG) (v : Value) : Value := match v with
  | .ref a => .ref (G.2.2 a)
  | v => v
theorem gWs_at {G : gG} {M : gMem} {o : Nat} (h : o < gN) : (gWs G M)[o]? = some (G.2.2 o, gCl G M o) := by
  unfold gWs
  rw [List.getElem?_map, List.getElem?_range h]
  rfl
theorem gWs_len {G : gG} {M : gMem} : (gWs G M).length = gN := by
  unfold gWs
  rw [List.length_map, List.length_range]
theorem gWs_D {G : gG} {M : gMem} (h : gInj G) : va_D (gA G) (gWs G M) := by
  have key : ∀ (k : Nat) (q : Nat × va_E), (gWs G M)[k]? = some q → k < gN ∧ q.1 = G.2.2 k := by
    intro k q hq
    have hk : k < gN := by
      have := (List.getElem?_eq_some_iff.mp hq).1
      rwa [gWs_len] at this
    rw [gWs_at hk] at hq
    cases hq
    exact ⟨hk, rfl⟩
  refine ⟨fun i j p q hi hj hpq => ?_, fun k q hk => ?_⟩
  · obtain ⟨h1, e1⟩ := key i p hi
    obtain ⟨h2, e2⟩ := key j q hj
    exact h i j h1 h2 (by rw [← e1, ← e2]; exact hpq)
  · obtain ⟨h1, e1⟩ := key k q hk
    exact ⟨k, h1, e1⟩
/-- a change of one object alone -/
theorem gWs_set {G : gG} {M M' : gMem} {o : Nat} {e : va_E} (he : gCl G M' o = e) (h : ∀ q, q ≠ o → gCl G M' q = gCl G M q) : (gWs G M).set o (G.2.2 o, e) = gWs G M' := by
  apply List.ext_getElem?
  intro i
  rw [List.getElem?_set]
  by_cases hi : i < gN
  · by_cases ho : o = i
    · subst ho
      rw [if_pos rfl, if_pos (by rw [gWs_len]; exact hi), gWs_at hi, he]
    · rw [if_neg ho, gWs_at hi, gWs_at hi, h i (fun q => ho q.symm)]
  · have h1 : (gWs G M')[i]? = none := List.getElem?_eq_none (by rw [gWs_len]; omega)
    have h2 : (gWs G M)[i]? = none := List.getElem?_eq_none (by rw [gWs_len]; omega)
    rw [h1, h2]
    by_cases ho : o = i
    · subst ho
      rw [if_pos rfl, if_neg (by rw [gWs_len]; exact hi)]
    · rw [if_neg ho]
def gSI (M : gMem) (o j : Nat) (x : Int32) : gMem := (fun a => if a = o then upd (M.1 o) j x else M.1 a, M.2)
def gSJ (M : gMem) (o j : Nat) (x : Int64) : gMem := (M.1, fun a => if a = o then vp_updL (M.2.1 o) j x else M.2.1 a, M.2.2)
def gST (M : gMem) (w t : Nat) : gMem := (M.1, M.2.1, fun a => if a = w then t else M.2.2 a)
theorem gFs_at {G : gG} {M : gMem} {k o j n : Nat} (h : j < n) : ((List.range n).map (gFv G M k o))[j]? = some (gFv G M k o j) := by
  rw [List.getElem?_map, List.getElem?_range h]
  rfl
theorem gFs_set {G : gG} {M M' : gMem} {k o j n : Nat} {v : Value} (hv : gFv G M' k o j = v) (h : ∀ i, i ≠ j → gFv G M' k o i = gFv G M k o i) : ((List.range n).map (gFv G M k o)).set j v = (List.range n).map (gFv G M' k o) := by
  apply List.ext_getElem?
  intro i
  rw [List.getElem?_set]
  by_cases hi : i < n
  · by_cases hj : j = i
    · subst hj
      rw [if_pos rfl, if_pos (by simp; exact hi), gFs_at hi, hv]
    · rw [if_neg hj, gFs_at hi, gFs_at hi, h i (fun q => hj q.symm)]
  · have h1 : ∀ M : gMem, ((List.range n).map (gFv G M k o))[i]? = none := fun M => List.getElem?_eq_none (by simp; omega)
    rw [h1, h1]
    by_cases hj : j = i
    · subst hj
      rw [if_pos rfl, if_neg (by simp; exact Nat.not_lt.mp hi)]
    · rw [if_neg hj]
theorem gFv_ne {G : gG} {M M' : gMem} {k q j : Nat} (h1 : M'.1 q = M.1 q) (h2 : M'.2.1 q = M.2.1 q) (h3 : gRf M' k q j = gRf M k q j) : gFv G M' k q j = gFv G M k q j := by
  unfold gFv
  rw [h1, h2, h3]
theorem gCl_ne {G : gG} {M M' : gMem} {q : Nat} (h1 : M'.1 q = M.1 q) (h2 : M'.2.1 q = M.2.1 q) (h3 : ∀ k j, gSh q = (0, k) → gRf M' k q j = gRf M k q j) : gCl G M' q = gCl G M q := by
  unfold gCl
  generalize hs : gSh q = z at h3
  obtain ⟨a, b⟩ := z
  match a with
  | 0 =>
    show Sum.inr _ = Sum.inr _
    congr 2
    apply List.map_congr_left
    intro j _
    exact gFv_ne h1 h2 (h3 b j rfl)
  | 1 => show Sum.inl _ = Sum.inl _; rw [h1]
  | 2 => show Sum.inl _ = Sum.inl _; rw [h1]
  | 3 => show Sum.inl _ = Sum.inl _; rw [h1]
  | 4 => show Sum.inl _ = Sum.inl _; rw [h2]
  | 5 => rfl
  | 6 => rfl
  | n + 7 => rfl
theorem gSI_1 {M : gMem} {o j q : Nat} {x : Int32} (h : q ≠ o) : (gSI M o j x).1 q = M.1 q := if_neg h
theorem gSI_0 {M : gMem} {o j : Nat} {x : Int32} : (gSI M o j x).1 o = upd (M.1 o) j x := if_pos rfl
theorem gSJ_1 {M : gMem} {o j q : Nat} {x : Int64} (h : q ≠ o) : (gSJ M o j x).2.1 q = M.2.1 q := if_neg h
theorem gSJ_0 {M : gMem} {o j : Nat} {x : Int64} : (gSJ M o j x).2.1 o = vp_updL (M.2.1 o) j x := if_pos rfl
theorem gRf_T {M M' : gMem} (h : M'.2.2 = M.2.2) (k o j : Nat) : gRf M' k o j = gRf M k o j := by
  unfold gRf
  rw [h]
def gNst : List Cond := lw_tbl.filter (fun w => match w with | .methodLinkNest .. => true | _ => false)
def gNsf : List Cond := lw_tbl.filter (fun w => match w with | .fieldLinkNest .. => true | _ => false)
