/-! ===== BEGIN words of one list among another's, by their places ===== -/
theorem goodIn_r {big : List Cond} (ws : List Cond) (ps : List Nat) (hp : ws = ps.filterMap (fun i => big[i]?)) (h : ws.all goodWord = true) : GoodIn big ws := by
  intro w hw
  have h1 := List.all_eq_true.mp h w hw
  rw [hp] at hw
  obtain ⟨i, -, hi⟩ := List.mem_filterMap.mp hw
  have hm : w ∈ big := by first | exact List.mem_of_getElem? hi | exact List.getElem?_mem hi
  exact ⟨hm, good_of_word h1⟩
theorem goodIn_app {big a b : List Cond} (ha : GoodIn big a) (hb : GoodIn big b) : GoodIn big (a ++ b) := fun w h => (List.mem_append.mp h).elim (ha w) (hb w)
theorem goodIn_ca {big a b : List Cond} {c : Cond} (ha : GoodIn big (c :: a)) (hb : GoodIn big b) : GoodIn big (c :: (a ++ b)) := fun w h => (List.mem_cons.mp h).elim (fun e => ha w (List.mem_cons.mpr (Or.inl e))) (fun h => (List.mem_append.mp h).elim (fun h => ha w (List.mem_cons.mpr (Or.inr h))) (hb w))
theorem goodIn_sub {big ws : List Cond} (hm : ∀ w ∈ ws, w ∈ big) (h : ws.all goodWord = true) : GoodIn big ws := fun w hw => ⟨hm w hw, good_of_word (List.all_eq_true.mp h w hw)⟩
/-! ===== END ===== -/

/-! ===== BEGIN new T[n][m]: the outer array a place, the inner ones among the pooled ===== -/
/-- f, but v at every address of l -/
def vr_up {α : Type} (f : Nat → α) (l : List Nat) (v : α) : Nat → α := fun a => if a ∈ l then v else f a
theorem vr_up_in {α : Type} {f : Nat → α} {l : List Nat} {v : α} {a : Nat} (h : a ∈ l) : vr_up f l v a = v := if_pos h
theorem vr_up_ne {α : Type} {f : Nat → α} {l : List Nat} {v : α} {a : Nat} (h : a ∉ l) : vr_up f l v a = f a := if_neg h
theorem vr_rows {L l : List Nat} {f : Nat → va_E} {e : va_E} (h : ∀ a, a ∈ l → a ∉ L) : va_pl L f ++ l.map (fun a => (a, e)) = va_pl (L ++ l) (vr_up f l e) := by
  unfold va_pl
  rw [List.map_append]
  congr 1
  · apply List.map_congr_left
    intro a ha
    rw [vr_up_ne (fun q => h a q ha)]
  · apply List.map_congr_left
    intro a ha
    rw [vr_up_in ha]
theorem vr_lay {X rows : va_W} {x : Nat × va_E} {pl : va_W} {D : va_G} {cl : List vw_C} {H : Heap} (hP : va_P D cl (((X ++ pl) ++ [x]) ++ rows) H) : va_P D cl ((X ++ [x]) ++ (pl ++ rows)) H := by
  rw [List.append_assoc (X ++ pl)] at hP
  have h := va_P.swap hP
  rw [← List.append_assoc X] at h
  have h2 := va_P.swap h
  rw [List.append_assoc (X ++ [x])] at h2
  exact h2
theorem vr_layD {X rows : va_W} {x : Nat × va_E} {pl : va_W} {A : Nat → Prop} (hD : va_D A (((X ++ pl) ++ [x]) ++ rows)) : va_D A ((X ++ [x]) ++ (pl ++ rows)) := by
  rw [List.append_assoc (X ++ pl)] at hD
  have h := va_D.swap hD
  rw [← List.append_assoc X] at h
  have h2 := va_D.swap h
  rw [List.append_assoc (X ++ [x])] at h2
  exact h2
theorem vr_outer (c : ClassId) (N h0 : Nat) : ∀ i : Nat, Jvm.Free.Multi.outerC c N h0 i = arrV c N (fun j => va_rf (if j < i then some (h0 + 1 + j) else none))
  | 0 => by
    show ({ cls := c, slots := Array.replicate N .null, vm := .none } : Cell) = _
    rw [arrV_new]
    refine congrArg (arrV c N) (funext fun j => ?_)
    simp [va_rf]
  | i + 1 => by
    show (Jvm.Free.Multi.outerC c N h0 i).setSlot i (.ref (h0 + 1 + i)) = _
    rw [vr_outer c N h0 i, arrV_store]
    refine congrArg (arrV c N) (funext fun j => ?_)
    by_cases e : j = i
    · subst e
      simp [updV, va_rf]
    · by_cases h : j < i
      · simp [updV, e, h, Nat.lt_succ_of_lt h]
      · simp [updV, e, h, show ¬ j < i + 1 by omega]
def va_AOA (t : FieldType) (U : State) : Prop := (Cond.arrayOver (.array t)).before #[] U = true
theorem va_AOA.use {t : FieldType} {A : Array Value} {U : State} (h : va_AOA t U) : (Cond.arrayOver (.array t)).before A U = true := h
section VGM
variable {p : Program} {l : Launch} {e : Env} {R : Room} {s : State} {m : MethodId} {args : Array Value} {below : List Frame} {meth : Method} {c : Code} {H : Heap} {locs : List Loc} {cells slots : Nat} {Q : State → Prop}
variable {cc : ByteArray} {pc : Nat} {ls : Array Slot} {rest : List Value} {D : va_G} {cl : List vw_C} {A : Nat → Prop} {a : Nat} {tys : List (ClassId × FieldType)} {ws : va_W} {H0 : Heap}
theorem va_mna {X : va_W} {L : List Nat} {f : Nat → va_E} {cc : ByteArray} (hexec : p.tables.exec = Jvm.exec) (hb : c.code = cc) {own : String} {index : Nat} {ty : FieldType} {cy : ClassId} (hown : s.vm.findClass own = some m.cls) (hclink : (Cond.classLink own index ("[" ++ (FieldType.array ty).toString)).before args s = true) (hover : va_AOA ty s) (harr : (Cond.arrayClass ty).before args s = true) (hcy : s.vm.findClass (FieldType.array ty).toString = some cy)
    (hK : va_K D cl tys s) (hP : va_P D cl (X ++ va_pl L f) H) (hD : va_D A (X ++ va_pl L f)) (hS : va_S A H0 H locs) (hA : ∀ q, H0.size ≤ q → A q) {n k : Int32} {N' K' : Nat} {z : vp_A} (hn : ¬ n < 0) (hk : ¬ k < 0) (hN : n.toNatClampNeg = N') (hM : k.toNatClampNeg = K')
    (hb1 : N' * 4 ≤ 536870912) (hb2 : K' * componentBytes ty ≤ 536870912) (hb3 : K' ≤ 536870912) (hdf : fits ty (defaultValue ty) = true) (hdd : (defaultValue ty).isDefault = true) (hcells : cells + (1 + N') ≤ R.cells) (hslots : slots + (N' + N' * K') ≤ R.slots) (hz : ∀ c : ClassId, Jvm.Free.Multi.innerC c K' (defaultValue ty) = vp_cell c z) (hdg : decode cc pc = .ok (.multianewarray index 2, 4))
    (kk : ∀ (q : Nat) (r : Nat → Nat) (cA : ClassId) (H1 : Heap), (∀ i j : Nat, i < N' → j < N' → r i = r j → i = j) → (∀ i : Nat, i < N' → r i ∉ L) → va_K D cl (tys ++ [(cA, .array ty)]) s →
      va_P D cl ((X ++ [(q, .inl (cA, N', .inr (.inr (.inr (.inr (fun i => if i < N' then some (r i) else none))))))]) ++ va_pl (L ++ (List.range N').map r) (vr_up f ((List.range N').map r) (.inl (cy, z)))) H1 → va_D A ((X ++ [(q, .inl (cA, N', .inr (.inr (.inr (.inr (fun i => if i < N' then some (r i) else none))))))]) ++ va_pl (L ++ (List.range N').map r) (vr_up f ((List.range N').map r) (.inl (cy, z)))) → va_S A H0 H1 locs →
      W p l e R s m args below meth c H1 locs (cells + 1 + N') (slots + N' + N' * K') Q (F0 m (pc + 4) ls (.ref q :: rest))) : W p l e R s m args below meth c H locs cells slots Q (F0 m pc ls (.int k :: .int n :: rest)) := by
  subst hN
  subst hM
  intro T hT Xs
  obtain ⟨vm₁, cA, comp, -, fA, fC, hO, -, X', step⟩ := Xs.multianewarray2F hexec hown hclink (va_AOA.use hover) harr (g := F0 m pc ls (.int k :: .int n :: rest)) rfl (by rw [hb]; exact hdg) rfl hn hk hb1 hb2 hb3 hdf hdd hcells hslots
  have ec : some cy = some comp := hcy.symm.trans fC
  cases ec
  generalize hF : Jvm.Free.Multi.fill (T.setVm vm₁) cA cy n.toNatClampNeg k.toNatClampNeg (defaultValue ty) n.toNatClampNeg = F at X' step
  have hTh : (T.setVm vm₁).heap = H := hT
  obtain ⟨f1, f2, -, -⟩ := Jvm.Free.Multi.fill_facts (T.setVm vm₁) cA cy n.toNatClampNeg k.toNatClampNeg (defaultValue ty) n.toNatClampNeg
  rw [hF, hTh] at f1 f2
  have hold : ∀ x : Nat, x < H.size → F.heap[x]? = H[x]? := fun x hx => by
    have := Jvm.Free.Multi.fill_old (T.setVm vm₁) cA cy n.toNatClampNeg k.toNatClampNeg (defaultValue ty) (a := x) (by rw [hTh]; exact hx) n.toNatClampNeg
    rw [hF, hTh] at this
    exact this
  have hrow : ∀ j : Nat, j < n.toNatClampNeg → F.heap[H.size + 1 + j]? = some (vp_cell cy z) := fun j hj => by
    have := Jvm.Free.Multi.fill_inner (T.setVm vm₁) cA cy n.toNatClampNeg k.toNatClampNeg (defaultValue ty) n.toNatClampNeg j hj
    rw [hF, hTh, hz] at this
    exact this
  have hout : Jvm.Free.Multi.outerC cA n.toNatClampNeg H.size n.toNatClampNeg = vp_cell cA (n.toNatClampNeg, .inr (.inr (.inr (.inr (fun i => if i < n.toNatClampNeg then some (H.size + 1 + i) else none))))) := by
    rw [vp_cell_q]
    exact vr_outer cA n.toNatClampNeg H.size n.toNatClampNeg
  rw [hout] at f2
  have hlt : ∀ a, a ∈ L → a < H.size := fun a ha => by
    obtain ⟨k9, hk9⟩ := va_pl_get (X := X) (f := f) ha
    exact (hP k9 _ hk9).lt
  have hnl : ∀ i : Nat, i < n.toNatClampNeg → H.size + 1 + i ∉ L := fun i _ h => by
    have := hlt _ h
    omega
  have hnm : ∀ a, a ∈ (List.range n.toNatClampNeg).map (fun i => H.size + 1 + i) → a ∉ L := fun a ha h => by
    obtain ⟨i, -, rfl⟩ := List.mem_map.mp ha
    have := hlt _ h
    omega
  have hP0 : va_P D cl (X ++ va_pl L f) F.heap := hP.kept (fun k9 x hx => hold x.1 ((hP k9 x hx).lt))
  have hP1 : va_P D cl ((X ++ va_pl L f) ++ [(H.size, .inl (cA, n.toNatClampNeg, .inr (.inr (.inr (.inr (fun i => if i < n.toNatClampNeg then some (H.size + 1 + i) else none))))))]) F.heap := hP0.app (fun k9 x hx => by
    have h0 : k9 < 1 := (List.getElem?_eq_some_iff.mp hx).1
    rw [show k9 = 0 by omega] at hx
    cases hx
    exact f2)
  have hP2 : va_P D cl (((X ++ va_pl L f) ++ [(H.size, .inl (cA, n.toNatClampNeg, .inr (.inr (.inr (.inr (fun i => if i < n.toNatClampNeg then some (H.size + 1 + i) else none))))))]) ++ ((List.range n.toNatClampNeg).map (fun i => H.size + 1 + i)).map (fun a => (a, .inl (cy, z)))) F.heap := hP1.app (fun k9 x hx => by
    obtain ⟨a, ha, rfl⟩ := List.mem_map.mp (List.mem_of_getElem? hx)
    obtain ⟨i, hi, rfl⟩ := List.mem_map.mp ha
    exact hrow i (List.mem_range.mp hi))
  have hD2 : va_D A (((X ++ va_pl L f) ++ [(H.size, .inl (cA, n.toNatClampNeg, .inr (.inr (.inr (.inr (fun i => if i < n.toNatClampNeg then some (H.size + 1 + i) else none))))))]) ++ ((List.range n.toNatClampNeg).map (fun i => H.size + 1 + i)).map (fun a => (a, .inl (cy, z)))) := by
    have hD1 := hD.push (e := .inl (cA, n.toNatClampNeg, .inr (.inr (.inr (.inr (fun i => if i < n.toNatClampNeg then some (H.size + 1 + i) else none)))))) hP rfl (hA _ hS.1)
    generalize hW1 : (X ++ va_pl L f) ++ [(H.size, .inl (cA, n.toNatClampNeg, .inr (.inr (.inr (.inr (fun i => if i < n.toNatClampNeg then some (H.size + 1 + i) else none))))))] = W1 at hD1 hP1 ⊢
    have hle : ∀ (k9 : Nat) (x : Nat × va_E), W1[k9]? = some x → x.1 ≤ H.size := fun k9 x hx => by
      rw [← hW1] at hx
      by_cases hl : k9 < (X ++ va_pl L f).length
      · rw [List.getElem?_append_left hl] at hx
        exact Nat.le_of_lt ((hP k9 x hx).lt)
      · rw [List.getElem?_append_right (by omega)] at hx
        have h0 : k9 - (X ++ va_pl L f).length < 1 := (List.getElem?_eq_some_iff.mp hx).1
        rw [show k9 - (X ++ va_pl L f).length = 0 by omega] at hx
        cases hx
        exact Nat.le_refl _
    have hr : ∀ (k9 : Nat) (x : Nat × va_E), (((List.range n.toNatClampNeg).map (fun i => H.size + 1 + i)).map (fun a => ((a, .inl (cy, z)) : Nat × va_E)))[k9]? = some x → x.1 = H.size + 1 + k9 := fun k9 x hx => by
      rw [List.getElem?_map, List.getElem?_map] at hx
      by_cases h9 : k9 < n.toNatClampNeg
      · rw [List.getElem?_range h9] at hx
        cases hx
        rfl
      · have hn0 : (List.range n.toNatClampNeg)[k9]? = none := List.getElem?_eq_none (by rw [List.length_range]; omega)
        rw [hn0] at hx
        cases hx
    refine ⟨fun i j x y hi hj hxy => ?_, fun k9 x hx => ?_⟩
    · by_cases h1 : i < W1.length <;> by_cases h2 : j < W1.length
      · rw [List.getElem?_append_left h1] at hi
        rw [List.getElem?_append_left h2] at hj
        exact hD1.1 i j x y hi hj hxy
      · rw [List.getElem?_append_left h1] at hi
        rw [List.getElem?_append_right (by omega)] at hj
        have := hle _ _ hi
        have := hr _ _ hj
        omega
      · rw [List.getElem?_append_right (by omega)] at hi
        rw [List.getElem?_append_left h2] at hj
        have := hle _ _ hj
        have := hr _ _ hi
        omega
      · rw [List.getElem?_append_right (by omega)] at hi hj
        have := hr _ _ hi
        have := hr _ _ hj
        omega
    · by_cases h1 : k9 < W1.length
      · rw [List.getElem?_append_left h1] at hx
        exact hD1.2 k9 x hx
      · rw [List.getElem?_append_right (by omega)] at hx
        have := hr _ _ hx
        exact hA _ (by have := hS.1; omega)
  have hAr : ArrOfT s cA (.array ty) := fun N9 z9 => by
    obtain ⟨-, k9, hk9, cm9, hkk9⟩ := (hO 0 0 0).1
    exact ⟨(fun q hq => by cases hq), k9, hk9, cm9, hkk9⟩
  have hK2 : va_K D cl (tys ++ [(cA, .array ty)]) s := ⟨hK.1, fun k9 x hx => by
    by_cases hl : k9 < tys.length
    · rw [List.getElem?_append_left hl] at hx
      exact hK.2 k9 x hx
    · rw [List.getElem?_append_right (by omega)] at hx
      have h0 : k9 - tys.length < 1 := (List.getElem?_eq_some_iff.mp hx).1
      rw [show k9 - tys.length = 0 by omega] at hx
      cases hx
      exact ⟨hAr, fA⟩⟩
  obtain ⟨t, a1, b1⟩ := kk H.size (fun i => H.size + 1 + i) cA F.heap (fun i j _ _ h => by have h9 : H.size + 1 + i = H.size + 1 + j := h; omega) hnl hK2 (by rw [← vr_rows hnm]; exact vr_lay hP2) (by rw [← vr_rows hnm]; exact vr_layD hD2) ⟨by rw [f1]; have := hS.1; omega, fun x h1 h2 => (hold x (Nat.lt_of_lt_of_le h1 hS.1)).trans (hS.2.1 x h1 h2), hS.2.2⟩ F rfl X'
  refine ⟨t, step t ?_, b1⟩
  have e : T.heap.size = H.size := by rw [hT]
  rw [e]
  exact a1
end VGM
/-! ===== END ===== -/

/-! ===== BEGIN printed: names, fields, word lists, decode rows ===== -/
def RX0 : String := "WaxedPartners$Acts"
def TX0 : u_T := fun k => match k with
  | 0 => ("WaxedPartners$Acts", "firsts", "[I", true)
  | 1 => ("WaxedPartners$Acts", "seconds", "[I", true)
  | 2 => ("WaxedPartners$Acts", "years", "[I", true)
  | 3 => ("WaxedPartners$Acts", "waxes", "[I", true)
  | _ => ("WaxedPartners$Acts", "given", "I", false)
def tyX0 : Nat → FieldType := fun k => match k with
  | 0 => .array .int
  | 1 => .array .int
  | 2 => .array .int
  | 3 => .array .int
  | _ => .int
abbrev wsX00 : List Cond := u_ws RX0 TX0 5
theorem nmX0 : ∀ a, a < 5 → ∀ b, b < 5 → a ≠ b → (TX0 a).2.1 ≠ (TX0 b).2.1 := by decide +kernel
theorem tyX0_ok : ∀ k, k < 5 → parseFieldDescriptor (TX0 k).2.2.1 = some (tyX0 k) := by decide +kernel
abbrev cX0_init : ByteArray := prog_2_method_1_code
def yX0_init : MethodName := ⟨RX0, "<init>", "()V"⟩
abbrev cX0_add : ByteArray := prog_2_method_2_code
def yX0_add : MethodName := ⟨RX0, "add", "(IIII)V"⟩
abbrev cX0_takeBack : ByteArray := prog_2_method_3_code
def yX0_takeBack : MethodName := ⟨RX0, "takeBack", "()V"⟩
abbrev cX0_cutOf : ByteArray := prog_2_method_4_code
def yX0_cutOf : MethodName := ⟨RX0, "cutOf", "(IIII)I"⟩
abbrev cX0_isOf : ByteArray := prog_2_method_5_code
def yX0_isOf : MethodName := ⟨RX0, "isOf", "(III)Z"⟩
abbrev cX0_copyFrom : ByteArray := prog_2_method_6_code
def yX0_copyFrom : MethodName := ⟨RX0, "copyFrom", "(LWaxedPartners$Acts;)V"⟩
def RX1 : String := "WaxedPartners$Crowd"
def TX1 : u_T := fun k => match k with
  | 0 => ("WaxedPartners$Crowd", "fewest", "[I", true)
  | _ => ("WaxedPartners$Crowd", "wayCounts", "[I", true)
def tyX1 : Nat → FieldType := fun k => match k with
  | 0 => .array .int
  | _ => .array .int
abbrev wsX10 : List Cond := u_ws RX1 TX1 2
theorem nmX1 : ∀ a, a < 2 → ∀ b, b < 2 → a ≠ b → (TX1 a).2.1 ≠ (TX1 b).2.1 := by decide +kernel
theorem tyX1_ok : ∀ k, k < 2 → parseFieldDescriptor (TX1 k).2.2.1 = some (tyX1 k) := by decide +kernel
abbrev cX1_init : ByteArray := prog_3_method_1_code
def yX1_init : MethodName := ⟨RX1, "<init>", "()V"⟩
abbrev cX1_fits : ByteArray := prog_3_method_2_code
def yX1_fits : MethodName := ⟨RX1, "fits", "(LWaxedPartners$Town;II)Z"⟩
abbrev cX1_setWorth : ByteArray := prog_3_method_3_code
def yX1_setWorth : MethodName := ⟨RX1, "setWorth", "(LWaxedPartners$Town;II)I"⟩
abbrev cX1_bestSet : ByteArray := prog_3_method_4_code
def yX1_bestSet : MethodName := ⟨RX1, "bestSet", "(LWaxedPartners$Town;I)I"⟩
abbrev cX1_part : ByteArray := prog_3_method_5_code
def yX1_part : MethodName := ⟨RX1, "part", "(LWaxedPartners$Town;I)V"⟩
abbrev cX1_addParting : ByteArray := prog_3_method_6_code
def yX1_addParting : MethodName := ⟨RX1, "addParting", "(II)V"⟩
abbrev cX1_gainOverOrders : ByteArray := prog_3_method_7_code
def yX1_gainOverOrders : MethodName := ⟨RX1, "gainOverOrders", "(LWaxedPartners$Town;II)J"⟩
abbrev cX1_firstLeaver : ByteArray := prog_3_method_8_code
def yX1_firstLeaver : MethodName := ⟨RX1, "firstLeaver", "(LWaxedPartners$Town;ILWaxedPartners$Numbers;)I"⟩
def RX2 : String := "WaxedPartners$Decade"
def TX2 : u_T := fun k => match k with
  | 0 => ("WaxedPartners$Decade", "falseJoins", "I", false)
  | 1 => ("WaxedPartners$Decade", "actsAside", "Z", false)
  | 2 => ("WaxedPartners$Decade", "keptIn", "I", false)
  | 3 => ("WaxedPartners$Decade", "sickBesides", "I", false)
  | 4 => ("WaxedPartners$Decade", "shaved", "I", false)
  | 5 => ("WaxedPartners$Decade", "joins", "I", false)
  | 6 => ("WaxedPartners$Decade", "firsts", "[I", true)
  | 7 => ("WaxedPartners$Decade", "seconds", "[I", true)
  | 8 => ("WaxedPartners$Decade", "froms", "[I", true)
  | 9 => ("WaxedPartners$Decade", "untils", "[I", true)
  | 10 => ("WaxedPartners$Decade", "helds", "[I", true)
  | 11 => ("WaxedPartners$Decade", "outs", "[I", true)
  | 12 => ("WaxedPartners$Decade", "sicks", "[I", true)
  | 13 => ("WaxedPartners$Decade", "worths", "[[I", true)
  | 14 => ("WaxedPartners$Decade", "ties", "[[I", true)
  | 15 => ("WaxedPartners$Decade", "firmSets", "[[I", true)
  | _ => ("WaxedPartners$Decade", "everSick", "I", false)
def tyX2 : Nat → FieldType := fun k => match k with
  | 0 => .int
  | 1 => .boolean
  | 2 => .int
  | 3 => .int
  | 4 => .int
  | 5 => .int
  | 6 => .array .int
  | 7 => .array .int
  | 8 => .array .int
  | 9 => .array .int
  | 10 => .array .int
  | 11 => .array .int
  | 12 => .array .int
  | 13 => .array (.array .int)
  | 14 => .array (.array .int)
  | 15 => .array (.array .int)
  | _ => .int
abbrev wsX20 : List Cond := u_ws RX2 TX2 17
theorem nmX2 : ∀ a, a < 17 → ∀ b, b < 17 → a ≠ b → (TX2 a).2.1 ≠ (TX2 b).2.1 := by decide +kernel
theorem tyX2_ok : ∀ k, k < 17 → parseFieldDescriptor (TX2 k).2.2.1 = some (tyX2 k) := by decide +kernel
abbrev cX2_init : ByteArray := prog_4_method_1_code
def yX2_init : MethodName := ⟨RX2, "<init>", "()V"⟩
abbrev cX2_supposeNothing : ByteArray := prog_4_method_2_code
def yX2_supposeNothing : MethodName := ⟨RX2, "supposeNothing", "()V"⟩
abbrev cX2_live : ByteArray := prog_4_method_3_code
def yX2_live : MethodName := ⟨RX2, "live", "(LWaxedPartners$Town;I)V"⟩
abbrev cX2_gatherJoins : ByteArray := prog_4_method_4_code
def yX2_gatherJoins : MethodName := ⟨RX2, "gatherJoins", "(LWaxedPartners$Town;)V"⟩
abbrev cX2_gather : ByteArray := prog_4_method_5_code
def yX2_gather : MethodName := ⟨RX2, "gather", "(LWaxedPartners$Town;IIIII)V"⟩
abbrev cX2_tellWorths : ByteArray := prog_4_method_6_code
def yX2_tellWorths : MethodName := ⟨RX2, "tellWorths", "(LWaxedPartners$Town;I)V"⟩
abbrev cX2_change : ByteArray := prog_4_method_7_code
def yX2_change : MethodName := ⟨RX2, "change", "(LWaxedPartners$Town;II)I"⟩
abbrev cX2_holdsIn : ByteArray := prog_4_method_8_code
def yX2_holdsIn : MethodName := ⟨RX2, "holdsIn", "(III)Z"⟩
abbrev cX2_joinUp : ByteArray := prog_4_method_9_code
def yX2_joinUp : MethodName := ⟨RX2, "joinUp", "(LWaxedPartners$Town;II)V"⟩
abbrev cX2_giveFirm : ByteArray := prog_4_method_10_code
def yX2_giveFirm : MethodName := ⟨RX2, "giveFirm", "([II)V"⟩
abbrev cX2_reach : ByteArray := prog_4_method_11_code
def yX2_reach : MethodName := ⟨RX2, "reach", "([II)I"⟩
abbrev cX2_tiedTo : ByteArray := prog_4_method_12_code
def yX2_tiedTo : MethodName := ⟨RX2, "tiedTo", "([II)I"⟩
abbrev cX2_failingIn : ByteArray := prog_4_method_13_code
def yX2_failingIn : MethodName := ⟨RX2, "failingIn", "(LWaxedPartners$Town;I)I"⟩
abbrev cX2_toldHeld : ByteArray := prog_4_method_14_code
def yX2_toldHeld : MethodName := ⟨RX2, "toldHeld", "(LWaxedPartners$Town;II)I"⟩
abbrev cX2_catching : ByteArray := prog_4_method_15_code
def yX2_catching : MethodName := ⟨RX2, "catching", "(LWaxedPartners$Town;I)I"⟩
abbrev cX2_worthOf : ByteArray := prog_4_method_16_code
def yX2_worthOf : MethodName := ⟨RX2, "worthOf", "(II)I"⟩
abbrev cX2_areTied : ByteArray := prog_4_method_17_code
def yX2_areTied : MethodName := ⟨RX2, "areTied", "(III)Z"⟩
abbrev cX2_isFirstOfFirm : ByteArray := prog_4_method_18_code
def yX2_isFirstOfFirm : MethodName := ⟨RX2, "isFirstOfFirm", "(II)Z"⟩
abbrev cX2_firmCount : ByteArray := prog_4_method_19_code
def yX2_firmCount : MethodName := ⟨RX2, "firmCount", "(LWaxedPartners$Town;I)I"⟩
abbrev cX2_firmWidth : ByteArray := prog_4_method_20_code
def yX2_firmWidth : MethodName := ⟨RX2, "firmWidth", "(LWaxedPartners$Town;III)I"⟩
abbrev cX2_joinsAmong : ByteArray := prog_4_method_21_code
def yX2_joinsAmong : MethodName := ⟨RX2, "joinsAmong", "(II)I"⟩
abbrev cX2_doorsOf : ByteArray := prog_4_method_22_code
def yX2_doorsOf : MethodName := ⟨RX2, "doorsOf", "(LWaxedPartners$Town;III)I"⟩
abbrev cX2_distance : ByteArray := prog_4_method_23_code
def yX2_distance : MethodName := ⟨RX2, "distance", "(III)I"⟩
def RX3 : String := "WaxedPartners$Gum"
def TX3 : u_T := fun k => match k with
  | 0 => ("WaxedPartners$Gum", "setCount", "I", false)
  | 1 => ("WaxedPartners$Gum", "inAll", "I", false)
  | 2 => ("WaxedPartners$Gum", "inAny", "I", false)
  | _ => ("WaxedPartners$Gum", "throughs", "[I", true)
def tyX3 : Nat → FieldType := fun k => match k with
  | 0 => .int
  | 1 => .int
  | 2 => .int
  | _ => .array .int
abbrev wsX30 : List Cond := u_ws RX3 TX3 4
theorem nmX3 : ∀ a, a < 4 → ∀ b, b < 4 → a ≠ b → (TX3 a).2.1 ≠ (TX3 b).2.1 := by decide +kernel
theorem tyX3_ok : ∀ k, k < 4 → parseFieldDescriptor (TX3 k).2.2.1 = some (tyX3 k) := by decide +kernel
abbrev cX3_init : ByteArray := prog_5_method_1_code
def yX3_init : MethodName := ⟨RX3, "<init>", "()V"⟩
abbrev cX3_canRead : ByteArray := prog_5_method_2_code
def yX3_canRead : MethodName := ⟨RX3, "canRead", "(LWaxedPartners$Town;LWaxedPartners$Numbers;)Z"⟩
abbrev cX3_isBelow : ByteArray := prog_5_method_3_code
def yX3_isBelow : MethodName := ⟨RX3, "isBelow", "(JI)Z"⟩
abbrev cX3_agrees : ByteArray := prog_5_method_4_code
def yX3_agrees : MethodName := ⟨RX3, "agrees", "(LWaxedPartners$Town;LWaxedPartners$Decade;LWaxedPartners$Numbers;I)Z"⟩
abbrev cX3_countSets : ByteArray := prog_5_method_5_code
def yX3_countSets : MethodName := ⟨RX3, "countSets", "(LWaxedPartners$Town;LWaxedPartners$Decade;LWaxedPartners$Numbers;)V"⟩
abbrev cX3_countThroughs : ByteArray := prog_5_method_6_code
def yX3_countThroughs : MethodName := ⟨RX3, "countThroughs", "(LWaxedPartners$Town;LWaxedPartners$Decade;)V"⟩
abbrev cX3_bestQuestion : ByteArray := prog_5_method_7_code
def yX3_bestQuestion : MethodName := ⟨RX3, "bestQuestion", "(LWaxedPartners$Town;)I"⟩
abbrev cX3_leftAtWorst : ByteArray := prog_5_method_8_code
def yX3_leftAtWorst : MethodName := ⟨RX3, "leftAtWorst", "(I)I"⟩
def RX4 : String := "WaxedPartners$Numbers"
def TX4 : u_T := fun k => match k with
  | 0 => ("WaxedPartners$Numbers", "values", "[J", true)
  | 1 => ("WaxedPartners$Numbers", "width", "I", false)
  | _ => ("WaxedPartners$Numbers", "size", "I", false)
def tyX4 : Nat → FieldType := fun k => match k with
  | 0 => .array .long
  | 1 => .int
  | _ => .int
abbrev wsX40 : List Cond := u_ws RX4 TX4 3
theorem nmX4 : ∀ a, a < 3 → ∀ b, b < 3 → a ≠ b → (TX4 a).2.1 ≠ (TX4 b).2.1 := by decide +kernel
theorem tyX4_ok : ∀ k, k < 3 → parseFieldDescriptor (TX4 k).2.2.1 = some (tyX4 k) := by decide +kernel
abbrev cX4_init : ByteArray := prog_6_method_1_code
def yX4_init : MethodName := ⟨RX4, "<init>", "()V"⟩
abbrev cX4_isThere : ByteArray := prog_6_method_2_code
def yX4_isThere : MethodName := ⟨RX4, "isThere", "()Z"⟩
abbrev cX4_begin : ByteArray := prog_6_method_3_code
def yX4_begin : MethodName := ⟨RX4, "begin", "(II)V"⟩
abbrev cX4_put : ByteArray := prog_6_method_4_code
def yX4_put : MethodName := ⟨RX4, "put", "(IJ)V"⟩
abbrev cX4_reaches : ByteArray := prog_6_method_5_code
def yX4_reaches : MethodName := ⟨RX4, "reaches", "(II)Z"⟩
abbrev cX4_compareTogether : ByteArray := prog_6_method_6_code
def yX4_compareTogether : MethodName := ⟨RX4, "compareTogether", "(II)I"⟩
def RX5 : String := "WaxedPartners$Reader"
def TX5 : u_T := fun k => match k with
  | 0 => ("WaxedPartners$Reader", "tape", "LWaxedPartners$Tape;", true)
  | 1 => ("WaxedPartners$Reader", "town", "LWaxedPartners$Town;", false)
  | 2 => ("WaxedPartners$Reader", "fault", "I", false)
  | 3 => ("WaxedPartners$Reader", "faultPlace", "I", false)
  | 4 => ("WaxedPartners$Reader", "kind", "I", false)
  | 5 => ("WaxedPartners$Reader", "start", "I", false)
  | 6 => ("WaxedPartners$Reader", "stop", "I", false)
  | _ => ("WaxedPartners$Reader", "value", "I", false)
def tyX5 : Nat → FieldType := fun k => match k with
  | 0 => .object "WaxedPartners$Tape"
  | 1 => .object "WaxedPartners$Town"
  | 2 => .int
  | 3 => .int
  | 4 => .int
  | 5 => .int
  | 6 => .int
  | _ => .int
abbrev wsX50 : List Cond := u_ws RX5 TX5 8
theorem nmX5 : ∀ a, a < 8 → ∀ b, b < 8 → a ≠ b → (TX5 a).2.1 ≠ (TX5 b).2.1 := by decide +kernel
theorem tyX5_ok : ∀ k, k < 8 → parseFieldDescriptor (TX5 k).2.2.1 = some (tyX5 k) := by decide +kernel
abbrev cX5_init : ByteArray := prog_7_method_1_code
def yX5_init : MethodName := ⟨RX5, "<init>", "()V"⟩
abbrev cX5_readTape : ByteArray := prog_7_method_2_code
def yX5_readTape : MethodName := ⟨RX5, "readTape", "()Z"⟩
abbrev cX5_readLine : ByteArray := prog_7_method_3_code
def yX5_readLine : MethodName := ⟨RX5, "readLine", "()V"⟩
abbrev cX5_readHead : ByteArray := prog_7_method_4_code
def yX5_readHead : MethodName := ⟨RX5, "readHead", "()V"⟩
abbrev cX5_readPartner : ByteArray := prog_7_method_5_code
def yX5_readPartner : MethodName := ⟨RX5, "readPartner", "()V"⟩
abbrev cX5_readJoin : ByteArray := prog_7_method_6_code
def yX5_readJoin : MethodName := ⟨RX5, "readJoin", "()V"⟩
abbrev cX5_readDoor : ByteArray := prog_7_method_7_code
def yX5_readDoor : MethodName := ⟨RX5, "readDoor", "()V"⟩
abbrev cX5_readCold : ByteArray := prog_7_method_8_code
def yX5_readCold : MethodName := ⟨RX5, "readCold", "()V"⟩
abbrev cX5_refuse : ByteArray := prog_7_method_9_code
def yX5_refuse : MethodName := ⟨RX5, "refuse", "(I)V"⟩
abbrev cX5_expectWord : ByteArray := prog_7_method_10_code
def yX5_expectWord : MethodName := ⟨RX5, "expectWord", "(Ljava/lang/String;)V"⟩
abbrev cX5_expectNumber : ByteArray := prog_7_method_11_code
def yX5_expectNumber : MethodName := ⟨RX5, "expectNumber", "(II)I"⟩
abbrev cX5_expectSign : ByteArray := prog_7_method_12_code
def yX5_expectSign : MethodName := ⟨RX5, "expectSign", "()V"⟩
abbrev cX5_isWord : ByteArray := prog_7_method_13_code
def yX5_isWord : MethodName := ⟨RX5, "isWord", "(Ljava/lang/String;)Z"⟩
abbrev cX5_advance : ByteArray := prog_7_method_14_code
def yX5_advance : MethodName := ⟨RX5, "advance", "()V"⟩
abbrev cX5_readDigits : ByteArray := prog_7_method_15_code
def yX5_readDigits : MethodName := ⟨RX5, "readDigits", "()V"⟩
abbrev cX5_kindOf : ByteArray := prog_7_method_16_code
def yX5_kindOf : MethodName := ⟨RX5, "kindOf", "(I)I"⟩
abbrev cX5_isBlank : ByteArray := prog_7_method_17_code
def yX5_isBlank : MethodName := ⟨RX5, "isBlank", "(I)Z"⟩
abbrev cX5_isLetter : ByteArray := prog_7_method_18_code
def yX5_isLetter : MethodName := ⟨RX5, "isLetter", "(I)Z"⟩
abbrev cX5_isDigit : ByteArray := prog_7_method_19_code
def yX5_isDigit : MethodName := ⟨RX5, "isDigit", "(I)Z"⟩
def RX6 : String := "WaxedPartners$Tape"
def TX6 : u_T := fun k => match k with
  | 0 => ("WaxedPartners$Tape", "bytes", "[B", true)
  | _ => ("WaxedPartners$Tape", "size", "I", false)
def tyX6 : Nat → FieldType := fun k => match k with
  | 0 => .array .byte
  | _ => .int
abbrev wsX60 : List Cond := u_ws RX6 TX6 2
theorem nmX6 : ∀ a, a < 2 → ∀ b, b < 2 → a ≠ b → (TX6 a).2.1 ≠ (TX6 b).2.1 := by decide +kernel
theorem tyX6_ok : ∀ k, k < 2 → parseFieldDescriptor (TX6 k).2.2.1 = some (tyX6 k) := by decide +kernel
abbrev cX6_init : ByteArray := prog_8_method_1_code
def yX6_init : MethodName := ⟨RX6, "<init>", "()V"⟩
abbrev cX6_put : ByteArray := prog_8_method_2_code
def yX6_put : MethodName := ⟨RX6, "put", "(I)V"⟩
abbrev cX6_at : ByteArray := prog_8_method_3_code
def yX6_at : MethodName := ⟨RX6, "at", "(I)I"⟩
def RX7 : String := "WaxedPartners$Town"
def TX7 : u_T := fun k => match k with
  | 0 => ("WaxedPartners$Town", "lines", "I", false)
  | 1 => ("WaxedPartners$Town", "years", "I", false)
  | 2 => ("WaxedPartners$Town", "law", "I", false)
  | 3 => ("WaxedPartners$Town", "slump", "I", false)
  | 4 => ("WaxedPartners$Town", "odds", "I", false)
  | 5 => ("WaxedPartners$Town", "partners", "I", false)
  | 6 => ("WaxedPartners$Town", "joins", "I", false)
  | 7 => ("WaxedPartners$Town", "doors", "I", false)
  | 8 => ("WaxedPartners$Town", "colds", "I", false)
  | 9 => ("WaxedPartners$Town", "wides", "[I", true)
  | 10 => ("WaxedPartners$Town", "worths", "[I", true)
  | 11 => ("WaxedPartners$Town", "gains", "[I", true)
  | 12 => ("WaxedPartners$Town", "firsts", "[I", true)
  | 13 => ("WaxedPartners$Town", "seconds", "[I", true)
  | 14 => ("WaxedPartners$Town", "waxes", "[I", true)
  | 15 => ("WaxedPartners$Town", "doorWides", "[I", true)
  | 16 => ("WaxedPartners$Town", "sick", "[I", true)
  | 17 => ("WaxedPartners$Town", "sickAt", "[I", true)
  | _ => ("WaxedPartners$Town", "acts", "LWaxedPartners$Acts;", true)
def tyX7 : Nat → FieldType := fun k => match k with
  | 0 => .int
  | 1 => .int
  | 2 => .int
  | 3 => .int
  | 4 => .int
  | 5 => .int
  | 6 => .int
  | 7 => .int
  | 8 => .int
  | 9 => .array .int
  | 10 => .array .int
  | 11 => .array .int
  | 12 => .array .int
  | 13 => .array .int
  | 14 => .array .int
  | 15 => .array .int
  | 16 => .array .int
  | 17 => .array .int
  | _ => .object "WaxedPartners$Acts"
abbrev wsX70 : List Cond := u_ws RX7 TX7 19
theorem nmX7 : ∀ a, a < 19 → ∀ b, b < 19 → a ≠ b → (TX7 a).2.1 ≠ (TX7 b).2.1 := by decide +kernel
theorem tyX7_ok : ∀ k, k < 19 → parseFieldDescriptor (TX7 k).2.2.1 = some (tyX7 k) := by decide +kernel
abbrev cX7_init : ByteArray := prog_9_method_1_code
def yX7_init : MethodName := ⟨RX7, "<init>", "()V"⟩
abbrev cX7_clear : ByteArray := prog_9_method_2_code
def yX7_clear : MethodName := ⟨RX7, "clear", "()V"⟩
abbrev cX7_copyFrom : ByteArray := prog_9_method_3_code
def yX7_copyFrom : MethodName := ⟨RX7, "copyFrom", "(LWaxedPartners$Town;)V"⟩
abbrev cX7_copy : ByteArray := prog_9_method_4_code
def yX7_copy : MethodName := ⟨RX7, "copy", "([I[I)V"⟩
abbrev cX7_isTold : ByteArray := prog_9_method_5_code
def yX7_isTold : MethodName := ⟨RX7, "isTold", "()Z"⟩
abbrev cX7_hasYear : ByteArray := prog_9_method_6_code
def yX7_hasYear : MethodName := ⟨RX7, "hasYear", "(I)Z"⟩
abbrev cX7_hasPartner : ByteArray := prog_9_method_7_code
def yX7_hasPartner : MethodName := ⟨RX7, "hasPartner", "(I)Z"⟩
abbrev cX7_hasPair : ByteArray := prog_9_method_8_code
def yX7_hasPair : MethodName := ⟨RX7, "hasPair", "(II)Z"⟩
abbrev cX7_hasJoin : ByteArray := prog_9_method_9_code
def yX7_hasJoin : MethodName := ⟨RX7, "hasJoin", "(I)Z"⟩
abbrev cX7_hasDoor : ByteArray := prog_9_method_10_code
def yX7_hasDoor : MethodName := ⟨RX7, "hasDoor", "(I)Z"⟩
abbrev cX7_toldWorth : ByteArray := prog_9_method_11_code
def yX7_toldWorth : MethodName := ⟨RX7, "toldWorth", "(I)I"⟩
abbrev cX7_waxOf : ByteArray := prog_9_method_12_code
def yX7_waxOf : MethodName := ⟨RX7, "waxOf", "(I)I"⟩
abbrev cX7_widthOf : ByteArray := prog_9_method_13_code
def yX7_widthOf : MethodName := ⟨RX7, "widthOf", "(III)I"⟩
def RX8 : String := "WaxedPartners"
def TX8 : u_T := fun k => match k with
  | 0 => ("WaxedPartners", "reader", "LWaxedPartners$Reader;", true)
  | 1 => ("WaxedPartners", "slots", "[LWaxedPartners$Numbers;", true)
  | 2 => ("WaxedPartners", "images", "[LWaxedPartners$Town;", true)
  | 3 => ("WaxedPartners", "decade", "LWaxedPartners$Decade;", true)
  | 4 => ("WaxedPartners", "crowd", "LWaxedPartners$Crowd;", true)
  | 5 => ("WaxedPartners", "gum", "LWaxedPartners$Gum;", true)
  | 6 => ("WaxedPartners", "town", "LWaxedPartners$Town;", false)
  | _ => ("WaxedPartners", "imagesKept", "I", false)
def tyX8 : Nat → FieldType := fun k => match k with
  | 0 => .object "WaxedPartners$Reader"
  | 1 => .array (.object "WaxedPartners$Numbers")
  | 2 => .array (.object "WaxedPartners$Town")
  | 3 => .object "WaxedPartners$Decade"
  | 4 => .object "WaxedPartners$Crowd"
  | 5 => .object "WaxedPartners$Gum"
  | 6 => .object "WaxedPartners$Town"
  | _ => .int
abbrev wsX80 : List Cond := u_ws RX8 TX8 8
theorem nmX8 : ∀ a, a < 8 → ∀ b, b < 8 → a ≠ b → (TX8 a).2.1 ≠ (TX8 b).2.1 := by decide +kernel
theorem tyX8_ok : ∀ k, k < 8 → parseFieldDescriptor (TX8 k).2.2.1 = some (tyX8 k) := by decide +kernel
abbrev cX8_init : ByteArray := prog_1_method_1_code
def yX8_init : MethodName := ⟨RX8, "<init>", "()V"⟩
abbrev cX8_feed : ByteArray := prog_1_method_2_code
def yX8_feed : MethodName := ⟨RX8, "feed", "(IIIII)I"⟩
abbrev cX8_end : ByteArray := prog_1_method_3_code
def yX8_end : MethodName := ⟨RX8, "end", "(I)I"⟩
abbrev cX8_city : ByteArray := prog_1_method_4_code
def yX8_city : MethodName := ⟨RX8, "city", "()I"⟩
abbrev cX8_fault : ByteArray := prog_1_method_5_code
def yX8_fault : MethodName := ⟨RX8, "fault", "(I)I"⟩
abbrev cX8_partner : ByteArray := prog_1_method_6_code
def yX8_partner : MethodName := ⟨RX8, "partner", "(II)I"⟩
abbrev cX8_join : ByteArray := prog_1_method_7_code
def yX8_join : MethodName := ⟨RX8, "join", "(II)I"⟩
abbrev cX8_door : ByteArray := prog_1_method_8_code
def yX8_door : MethodName := ⟨RX8, "door", "(I)I"⟩
abbrev cX8_holds : ByteArray := prog_1_method_9_code
def yX8_holds : MethodName := ⟨RX8, "holds", "(I)I"⟩
abbrev cX8_tied : ByteArray := prog_1_method_10_code
def yX8_tied : MethodName := ⟨RX8, "tied", "(III)I"⟩
abbrev cX8_firm : ByteArray := prog_1_method_11_code
def yX8_firm : MethodName := ⟨RX8, "firm", "(II)I"⟩
abbrev cX8_firms : ByteArray := prog_1_method_12_code
def yX8_firms : MethodName := ⟨RX8, "firms", "(I)I"⟩
abbrev cX8_wide : ByteArray := prog_1_method_13_code
def yX8_wide : MethodName := ⟨RX8, "wide", "(II)I"⟩
abbrev cX8_passes : ByteArray := prog_1_method_14_code
def yX8_passes : MethodName := ⟨RX8, "passes", "(II)I"⟩
abbrev cX8_largest : ByteArray := prog_1_method_15_code
def yX8_largest : MethodName := ⟨RX8, "largest", "(I)I"⟩
abbrev cX8_hairs : ByteArray := prog_1_method_16_code
def yX8_hairs : MethodName := ⟨RX8, "hairs", "(III)I"⟩
abbrev cX8_colds : ByteArray := prog_1_method_17_code
def yX8_colds : MethodName := ⟨RX8, "colds", "(I)I"⟩
abbrev cX8_cold : ByteArray := prog_1_method_18_code
def yX8_cold : MethodName := ⟨RX8, "cold", "(I)I"⟩
abbrev cX8_worth : ByteArray := prog_1_method_19_code
def yX8_worth : MethodName := ⟨RX8, "worth", "(II)I"⟩
abbrev cX8_funds : ByteArray := prog_1_method_20_code
def yX8_funds : MethodName := ⟨RX8, "funds", "(II)I"⟩
abbrev cX8_out : ByteArray := prog_1_method_21_code
def yX8_out : MethodName := ⟨RX8, "out", "(I)I"⟩
abbrev cX8_fails : ByteArray := prog_1_method_22_code
def yX8_fails : MethodName := ⟨RX8, "fails", "(I)I"⟩
abbrev cX8_richest : ByteArray := prog_1_method_23_code
def yX8_richest : MethodName := ⟨RX8, "richest", "(I)I"⟩
abbrev cX8_parts : ByteArray := prog_1_method_24_code
def yX8_parts : MethodName := ⟨RX8, "parts", "(I)I"⟩
abbrev cX8_merger : ByteArray := prog_1_method_25_code
def yX8_merger : MethodName := ⟨RX8, "merger", "()I"⟩
abbrev cX8_apart : ByteArray := prog_1_method_26_code
def yX8_apart : MethodName := ⟨RX8, "apart", "(II)I"⟩
abbrev cX8_singles : ByteArray := prog_1_method_27_code
def yX8_singles : MethodName := ⟨RX8, "singles", "(I)I"⟩
abbrev cX8_total : ByteArray := prog_1_method_28_code
def yX8_total : MethodName := ⟨RX8, "total", "(I)I"⟩
abbrev cX8_best : ByteArray := prog_1_method_29_code
def yX8_best : MethodName := ⟨RX8, "best", "(I)I"⟩
abbrev cX8_bests : ByteArray := prog_1_method_30_code
def yX8_bests : MethodName := ⟨RX8, "bests", "(I)I"⟩
abbrev cX8_sets : ByteArray := prog_1_method_31_code
def yX8_sets : MethodName := ⟨RX8, "sets", "(I)I"⟩
abbrev cX8_ways : ByteArray := prog_1_method_32_code
def yX8_ways : MethodName := ⟨RX8, "ways", "(I)I"⟩
abbrev cX8_share : ByteArray := prog_1_method_33_code
def yX8_share : MethodName := ⟨RX8, "share", "(III)I"⟩
abbrev cX8_fair : ByteArray := prog_1_method_34_code
def yX8_fair : MethodName := ⟨RX8, "fair", "(II)I"⟩
abbrev cX8_leave : ByteArray := prog_1_method_35_code
def yX8_leave : MethodName := ⟨RX8, "leave", "(II)I"⟩
abbrev cX8_snips : ByteArray := prog_1_method_36_code
def yX8_snips : MethodName := ⟨RX8, "snips", "(II)I"⟩
abbrev cX8_snipped : ByteArray := prog_1_method_37_code
def yX8_snipped : MethodName := ⟨RX8, "snipped", "(II)I"⟩
abbrev cX8_wax : ByteArray := prog_1_method_38_code
def yX8_wax : MethodName := ⟨RX8, "wax", "(II)I"⟩
abbrev cX8_guards : ByteArray := prog_1_method_39_code
def yX8_guards : MethodName := ⟨RX8, "guards", "(I)I"⟩
abbrev cX8_guarded : ByteArray := prog_1_method_40_code
def yX8_guarded : MethodName := ⟨RX8, "guarded", "(I)I"⟩
abbrev cX8_sneezer : ByteArray := prog_1_method_41_code
def yX8_sneezer : MethodName := ⟨RX8, "sneezer", "()I"⟩
abbrev cX8_trues : ByteArray := prog_1_method_42_code
def yX8_trues : MethodName := ⟨RX8, "trues", "(I)I"⟩
abbrev cX8_surely : ByteArray := prog_1_method_43_code
def yX8_surely : MethodName := ⟨RX8, "surely", "(I)I"⟩
abbrev cX8_never : ByteArray := prog_1_method_44_code
def yX8_never : MethodName := ⟨RX8, "never", "(I)I"⟩
abbrev cX8_ask : ByteArray := prog_1_method_45_code
def yX8_ask : MethodName := ⟨RX8, "ask", "(I)I"⟩
abbrev cX8_leaves : ByteArray := prog_1_method_46_code
def yX8_leaves : MethodName := ⟨RX8, "leaves", "(I)I"⟩
abbrev cX8_laws : ByteArray := prog_1_method_47_code
def yX8_laws : MethodName := ⟨RX8, "laws", "(I)I"⟩
abbrev cX8_by : ByteArray := prog_1_method_48_code
def yX8_by : MethodName := ⟨RX8, "by", "(II)I"⟩
abbrev cX8_rests : ByteArray := prog_1_method_49_code
def yX8_rests : MethodName := ⟨RX8, "rests", "(II)I"⟩
abbrev cX8_gets : ByteArray := prog_1_method_50_code
def yX8_gets : MethodName := ⟨RX8, "gets", "(IIII)I"⟩
abbrev cX8_when : ByteArray := prog_1_method_51_code
def yX8_when : MethodName := ⟨RX8, "when", "(II)I"⟩
abbrev cX8_chance : ByteArray := prog_1_method_52_code
def yX8_chance : MethodName := ⟨RX8, "chance", "(III)I"⟩
abbrev cX8_through : ByteArray := prog_1_method_53_code
def yX8_through : MethodName := ⟨RX8, "through", "(III)I"⟩
abbrev cX8_mean : ByteArray := prog_1_method_54_code
def yX8_mean : MethodName := ⟨RX8, "mean", "(I)I"⟩
abbrev cX8_weld : ByteArray := prog_1_method_55_code
def yX8_weld : MethodName := ⟨RX8, "weld", "(IIII)I"⟩
abbrev cX8_snip : ByteArray := prog_1_method_56_code
def yX8_snip : MethodName := ⟨RX8, "snip", "(III)I"⟩
abbrev cX8_undo : ByteArray := prog_1_method_57_code
def yX8_undo : MethodName := ⟨RX8, "undo", "()I"⟩
abbrev cX8_anew : ByteArray := prog_1_method_58_code
def yX8_anew : MethodName := ⟨RX8, "anew", "()I"⟩
abbrev cX8_drawn : ByteArray := prog_1_method_59_code
def yX8_drawn : MethodName := ⟨RX8, "drawn", "(II)I"⟩
abbrev cX8_luck : ByteArray := prog_1_method_60_code
def yX8_luck : MethodName := ⟨RX8, "luck", "(III)I"⟩
abbrev cX8_rate : ByteArray := prog_1_method_61_code
def yX8_rate : MethodName := ⟨RX8, "rate", "(I)I"⟩
abbrev cX8_count : ByteArray := prog_1_method_62_code
def yX8_count : MethodName := ⟨RX8, "count", "(I)I"⟩
abbrev cX8_image : ByteArray := prog_1_method_63_code
def yX8_image : MethodName := ⟨RX8, "image", "(I)I"⟩
abbrev cX8_back : ByteArray := prog_1_method_64_code
def yX8_back : MethodName := ⟨RX8, "back", "(I)I"⟩
abbrev cX8_row : ByteArray := prog_1_method_65_code
def yX8_row : MethodName := ⟨RX8, "row", "(III)I"⟩
abbrev cX8_write : ByteArray := prog_1_method_66_code
def yX8_write : MethodName := ⟨RX8, "write", "(IIJ)I"⟩
abbrev cX8_paste : ByteArray := prog_1_method_67_code
def yX8_paste : MethodName := ⟨RX8, "paste", "(IIIII)I"⟩
abbrev cX8_has : ByteArray := prog_1_method_68_code
def yX8_has : MethodName := ⟨RX8, "has", "(II)Z"⟩
abbrev cX8_allOf : ByteArray := prog_1_method_69_code
def yX8_allOf : MethodName := ⟨RX8, "allOf", "(I)I"⟩
abbrev cX8_isEither : ByteArray := prog_1_method_70_code
def yX8_isEither : MethodName := ⟨RX8, "isEither", "(I)Z"⟩
abbrev cX8_isSeed : ByteArray := prog_1_method_71_code
def yX8_isSeed : MethodName := ⟨RX8, "isSeed", "(I)Z"⟩
abbrev cX8_slotAt : ByteArray := prog_1_method_72_code
def yX8_slotAt : MethodName := ⟨RX8, "slotAt", "(I)LWaxedPartners$Numbers;"⟩
abbrev cX8_rowCount : ByteArray := prog_1_method_73_code
def yX8_rowCount : MethodName := ⟨RX8, "rowCount", "()I"⟩
abbrev cX8_liveAsNow : ByteArray := prog_1_method_74_code
def yX8_liveAsNow : MethodName := ⟨RX8, "liveAsNow", "()V"⟩
abbrev cX8_firstYearWith : ByteArray := prog_1_method_75_code
def yX8_firstYearWith : MethodName := ⟨RX8, "firstYearWith", "([II)I"⟩
abbrev cX8_refusalOfGifts : ByteArray := prog_1_method_76_code
def yX8_refusalOfGifts : MethodName := ⟨RX8, "refusalOfGifts", "(LWaxedPartners$Numbers;I)I"⟩
abbrev cX8_refusalOfSightings : ByteArray := prog_1_method_77_code
def yX8_refusalOfSightings : MethodName := ⟨RX8, "refusalOfSightings", "(LWaxedPartners$Numbers;)I"⟩
abbrev cX8_chew : ByteArray := prog_1_method_78_code
def yX8_chew : MethodName := ⟨RX8, "chew", "(I)I"⟩
abbrev cX8_cutsApart : ByteArray := prog_1_method_79_code
def yX8_cutsApart : MethodName := ⟨RX8, "cutsApart", "(III)Z"⟩
abbrev cX8_fewestCut : ByteArray := prog_1_method_80_code
def yX8_fewestCut : MethodName := ⟨RX8, "fewestCut", "(II)I"⟩
abbrev cX8_staysWell : ByteArray := prog_1_method_81_code
def yX8_staysWell : MethodName := ⟨RX8, "staysWell", "(II)Z"⟩
abbrev cX8_fewestGuards : ByteArray := prog_1_method_82_code
def yX8_fewestGuards : MethodName := ⟨RX8, "fewestGuards", "(I)I"⟩
abbrev cX8_lastWorth : ByteArray := prog_1_method_83_code
def yX8_lastWorth : MethodName := ⟨RX8, "lastWorth", "(I)I"⟩
abbrev cX8_payOf : ByteArray := prog_1_method_84_code
def yX8_payOf : MethodName := ⟨RX8, "payOf", "(IIII)I"⟩
abbrev cX8_lastWorthOfBoth : ByteArray := prog_1_method_85_code
def yX8_lastWorthOfBoth : MethodName := ⟨RX8, "lastWorthOfBoth", "(II)I"⟩
abbrev cX8_casesOf : ByteArray := prog_1_method_86_code
def yX8_casesOf : MethodName := ⟨RX8, "casesOf", "(I)J"⟩
abbrev cX8_measure : ByteArray := prog_1_method_87_code
def yX8_measure : MethodName := ⟨RX8, "measure", "(III)I"⟩
abbrev cX8_meanOf : ByteArray := prog_1_method_88_code
def yX8_meanOf : MethodName := ⟨RX8, "meanOf", "(IIII)I"⟩
abbrev cX8_commonDivisor : ByteArray := prog_1_method_89_code
def yX8_commonDivisor : MethodName := ⟨RX8, "commonDivisor", "(JJ)J"⟩
abbrev cX8_lowest : ByteArray := prog_1_method_90_code
def yX8_lowest : MethodName := ⟨RX8, "lowest", "(JJI)I"⟩
abbrev cX8_drawFalseJoins : ByteArray := prog_1_method_91_code
def yX8_drawFalseJoins : MethodName := ⟨RX8, "drawFalseJoins", "(I)I"⟩
abbrev cX8_outAtLast : ByteArray := prog_1_method_92_code
def yX8_outAtLast : MethodName := ⟨RX8, "outAtLast", "(I)I"⟩
def RX9 : String := "WaxedPartnersModel"
def TX9 : u_T := fun k => match k with
  | 0 => ("WaxedPartnersModel", "thrown", "I", false)
  | 1 => ("WaxedPartnersModel", "width", "[I", true)
  | 2 => ("WaxedPartnersModel", "many", "[I", true)
  | 3 => ("WaxedPartnersModel", "cells", "[J", true)
  | 4 => ("WaxedPartnersModel", "moved", "[J", true)
  | 5 => ("WaxedPartnersModel", "tape", "[B", true)
  | 6 => ("WaxedPartnersModel", "taped", "I", false)
  | 7 => ("WaxedPartnersModel", "at", "I", false)
  | 8 => ("WaxedPartnersModel", "token", "I", false)
  | 9 => ("WaxedPartnersModel", "place", "I", false)
  | 10 => ("WaxedPartnersModel", "value", "I", false)
  | 11 => ("WaxedPartnersModel", "word", "J", false)
  | 12 => ("WaxedPartnersModel", "bad", "I", false)
  | 13 => ("WaxedPartnersModel", "badPlace", "I", false)
  | 14 => ("WaxedPartnersModel", "fault", "I", false)
  | 15 => ("WaxedPartnersModel", "faultPlace", "I", false)
  | 16 => ("WaxedPartnersModel", "lines", "[I", true)
  | 17 => ("WaxedPartnersModel", "has", "[I", true)
  | 18 => ("WaxedPartnersModel", "partner", "[I", true)
  | 19 => ("WaxedPartnersModel", "join", "[I", true)
  | 20 => ("WaxedPartnersModel", "door", "[I", true)
  | 21 => ("WaxedPartnersModel", "cold", "[I", true)
  | 22 => ("WaxedPartnersModel", "act", "[I", true)
  | 23 => ("WaxedPartnersModel", "isKept", "[Z", true)
  | 24 => ("WaxedPartnersModel", "law", "I", false)
  | 25 => ("WaxedPartnersModel", "falseJoins", "I", false)
  | 26 => ("WaxedPartnersModel", "shaves", "I", false)
  | 27 => ("WaxedPartnersModel", "keptIn", "I", false)
  | 28 => ("WaxedPartnersModel", "besideOne", "I", false)
  | 29 => ("WaxedPartnersModel", "besideOther", "I", false)
  | 30 => ("WaxedPartnersModel", "besideYear", "I", false)
  | 31 => ("WaxedPartnersModel", "coldBeside", "I", false)
  | 32 => ("WaxedPartnersModel", "areActs", "Z", false)
  | 33 => ("WaxedPartnersModel", "ties", "[I", true)
  | 34 => ("WaxedPartnersModel", "outAt", "[I", true)
  | 35 => ("WaxedPartnersModel", "coldAt", "[I", true)
  | 36 => ("WaxedPartnersModel", "worthAt", "[I", true)
  | 37 => ("WaxedPartnersModel", "fewest", "[I", true)
  | 38 => ("WaxedPartnersModel", "waysOf", "[I", true)
  | 39 => ("WaxedPartnersModel", "givenHigh", "J", false)
  | 40 => ("WaxedPartnersModel", "givenRest", "J", false)
  | 41 => ("WaxedPartnersModel", "snipSet", "I", false)
  | 42 => ("WaxedPartnersModel", "snipWax", "I", false)
  | 43 => ("WaxedPartnersModel", "trueMany", "I", false)
  | 44 => ("WaxedPartnersModel", "trueAll", "I", false)
  | 45 => ("WaxedPartnersModel", "trueAny", "I", false)
  | 46 => ("WaxedPartnersModel", "askBest", "I", false)
  | 47 => ("WaxedPartnersModel", "askLeaves", "I", false)
  | _ => ("WaxedPartnersModel", "often", "[I", true)
def tyX9 : Nat → FieldType := fun k => match k with
  | 0 => .int
  | 1 => .array .int
  | 2 => .array .int
  | 3 => .array .long
  | 4 => .array .long
  | 5 => .array .byte
  | 6 => .int
  | 7 => .int
  | 8 => .int
  | 9 => .int
  | 10 => .int
  | 11 => .long
  | 12 => .int
  | 13 => .int
  | 14 => .int
  | 15 => .int
  | 16 => .array .int
  | 17 => .array .int
  | 18 => .array .int
  | 19 => .array .int
  | 20 => .array .int
  | 21 => .array .int
  | 22 => .array .int
  | 23 => .array .boolean
  | 24 => .int
  | 25 => .int
  | 26 => .int
  | 27 => .int
  | 28 => .int
  | 29 => .int
  | 30 => .int
  | 31 => .int
  | 32 => .boolean
  | 33 => .array .int
  | 34 => .array .int
  | 35 => .array .int
  | 36 => .array .int
  | 37 => .array .int
  | 38 => .array .int
  | 39 => .long
  | 40 => .long
  | 41 => .int
  | 42 => .int
  | 43 => .int
  | 44 => .int
  | 45 => .int
  | 46 => .int
  | 47 => .int
  | _ => .array .int
abbrev wsX90 : List Cond := u_ws RX9 TX9 49
theorem nmX9 : ∀ a, a < 49 → ∀ b, b < 49 → a ≠ b → (TX9 a).2.1 ≠ (TX9 b).2.1 := by decide +kernel
theorem tyX9_ok : ∀ k, k < 49 → parseFieldDescriptor (TX9 k).2.2.1 = some (tyX9 k) := by decide +kernel
abbrev cX9_init : ByteArray := prog_11_method_1_code
def yX9_init : MethodName := ⟨RX9, "<init>", "()V"⟩
abbrev cX9_in : ByteArray := prog_11_method_3_code
def yX9_in : MethodName := ⟨RX9, "in", "(JJJ)Z"⟩
abbrev cX9_isSlot : ByteArray := prog_11_method_4_code
def yX9_isSlot : MethodName := ⟨RX9, "isSlot", "(I)Z"⟩
abbrev cX9_row : ByteArray := prog_11_method_5_code
def yX9_row : MethodName := ⟨RX9, "row", "(III)I"⟩
abbrev cX9_cut : ByteArray := prog_11_method_6_code
def yX9_cut : MethodName := ⟨RX9, "cut", "(JI)J"⟩
abbrev cX9_write : ByteArray := prog_11_method_7_code
def yX9_write : MethodName := ⟨RX9, "write", "(IIJ)I"⟩
abbrev cX9_paste : ByteArray := prog_11_method_8_code
def yX9_paste : MethodName := ⟨RX9, "paste", "(IIIII)I"⟩
abbrev cX9_feed : ByteArray := prog_11_method_9_code
def yX9_feed : MethodName := ⟨RX9, "feed", "(IIIII)I"⟩
abbrev cX9_four : ByteArray := prog_11_method_10_code
def yX9_four : MethodName := ⟨RX9, "four", "(I)V"⟩
abbrev cX9_end : ByteArray := prog_11_method_11_code
def yX9_end : MethodName := ⟨RX9, "end", "(I)I"⟩
abbrev cX9_isByte : ByteArray := prog_11_method_12_code
def yX9_isByte : MethodName := ⟨RX9, "isByte", "(III)Z"⟩
abbrev cX9_next : ByteArray := prog_11_method_13_code
def yX9_next : MethodName := ⟨RX9, "next", "()V"⟩
abbrev cX9_isGood : ByteArray := prog_11_method_14_code
def yX9_isGood : MethodName := ⟨RX9, "isGood", "()Z"⟩
abbrev cX9_errs : ByteArray := prog_11_method_15_code
def yX9_errs : MethodName := ⟨RX9, "errs", "(I)V"⟩
abbrev cX9_is : ByteArray := prog_11_method_16_code
def yX9_is : MethodName := ⟨RX9, "is", "(J)Z"⟩
abbrev cX9_takes : ByteArray := prog_11_method_17_code
def yX9_takes : MethodName := ⟨RX9, "takes", "(J)Z"⟩
abbrev cX9_asks : ByteArray := prog_11_method_18_code
def yX9_asks : MethodName := ⟨RX9, "asks", "(J)V"⟩
abbrev cX9_number : ByteArray := prog_11_method_19_code
def yX9_number : MethodName := ⟨RX9, "number", "(II)I"⟩
abbrev cX9_number_ : ByteArray := prog_11_method_20_code
def yX9_number_ : MethodName := ⟨RX9, "number", "(JII)I"⟩
abbrev cX9_ends : ByteArray := prog_11_method_21_code
def yX9_ends : MethodName := ⟨RX9, "ends", "()V"⟩
abbrev cX9_begins : ByteArray := prog_11_method_22_code
def yX9_begins : MethodName := ⟨RX9, "begins", "()V"⟩
abbrev cX9_isOver : ByteArray := prog_11_method_23_code
def yX9_isOver : MethodName := ⟨RX9, "isOver", "()V"⟩
abbrev cX9_fault : ByteArray := prog_11_method_24_code
def yX9_fault : MethodName := ⟨RX9, "fault", "(I)I"⟩
abbrev cX9_hasRead : ByteArray := prog_11_method_25_code
def yX9_hasRead : MethodName := ⟨RX9, "hasRead", "(I)I"⟩
abbrev cX9_tells : ByteArray := prog_11_method_26_code
def yX9_tells : MethodName := ⟨RX9, "tells", "(II)V"⟩
abbrev cX9_partnerLine : ByteArray := prog_11_method_27_code
def yX9_partnerLine : MethodName := ⟨RX9, "partnerLine", "()V"⟩
abbrev cX9_personHere : ByteArray := prog_11_method_28_code
def yX9_personHere : MethodName := ⟨RX9, "personHere", "()I"⟩
abbrev cX9_joinLine : ByteArray := prog_11_method_29_code
def yX9_joinLine : MethodName := ⟨RX9, "joinLine", "()V"⟩
abbrev cX9_doorLine : ByteArray := prog_11_method_30_code
def yX9_doorLine : MethodName := ⟨RX9, "doorLine", "()V"⟩
abbrev cX9_coldLine : ByteArray := prog_11_method_31_code
def yX9_coldLine : MethodName := ⟨RX9, "coldLine", "()V"⟩
abbrev cX9_isRoom : ByteArray := prog_11_method_32_code
def yX9_isRoom : MethodName := ⟨RX9, "isRoom", "(ZII)Z"⟩
abbrev cX9_lineHere : ByteArray := prog_11_method_33_code
def yX9_lineHere : MethodName := ⟨RX9, "lineHere", "()V"⟩
abbrev cX9_clears : ByteArray := prog_11_method_34_code
def yX9_clears : MethodName := ⟨RX9, "clears", "()V"⟩
abbrev cX9_city : ByteArray := prog_11_method_35_code
def yX9_city : MethodName := ⟨RX9, "city", "()I"⟩
abbrev cX9_copyRow : ByteArray := prog_11_method_36_code
def yX9_copyRow : MethodName := ⟨RX9, "copyRow", "([IIII)V"⟩
abbrev cX9_copyCity : ByteArray := prog_11_method_37_code
def yX9_copyCity : MethodName := ⟨RX9, "copyCity", "(II)V"⟩
abbrev cX9_isCity : ByteArray := prog_11_method_38_code
def yX9_isCity : MethodName := ⟨RX9, "isCity", "()Z"⟩
abbrev cX9_years : ByteArray := prog_11_method_39_code
def yX9_years : MethodName := ⟨RX9, "years", "()I"⟩
abbrev cX9_people : ByteArray := prog_11_method_40_code
def yX9_people : MethodName := ⟨RX9, "people", "()I"⟩
abbrev cX9_joins : ByteArray := prog_11_method_41_code
def yX9_joins : MethodName := ⟨RX9, "joins", "()I"⟩
abbrev cX9_isPerson : ByteArray := prog_11_method_42_code
def yX9_isPerson : MethodName := ⟨RX9, "isPerson", "(J)Z"⟩
abbrev cX9_areTwo : ByteArray := prog_11_method_43_code
def yX9_areTwo : MethodName := ⟨RX9, "areTwo", "(II)Z"⟩
abbrev cX9_isJoin : ByteArray := prog_11_method_44_code
def yX9_isJoin : MethodName := ⟨RX9, "isJoin", "(I)Z"⟩
abbrev cX9_isDoor : ByteArray := prog_11_method_45_code
def yX9_isDoor : MethodName := ⟨RX9, "isDoor", "(J)Z"⟩
abbrev cX9_isYear : ByteArray := prog_11_method_46_code
def yX9_isYear : MethodName := ⟨RX9, "isYear", "(I)Z"⟩
abbrev cX9_isThen : ByteArray := prog_11_method_47_code
def yX9_isThen : MethodName := ⟨RX9, "isThen", "(II)Z"⟩
abbrev cX9_isHalf : ByteArray := prog_11_method_48_code
def yX9_isHalf : MethodName := ⟨RX9, "isHalf", "(I)Z"⟩
abbrev cX9_isBit : ByteArray := prog_11_method_49_code
def yX9_isBit : MethodName := ⟨RX9, "isBit", "(II)Z"⟩
abbrev cX9_sizeOf : ByteArray := prog_11_method_50_code
def yX9_sizeOf : MethodName := ⟨RX9, "sizeOf", "(I)I"⟩
abbrev cX9_lays : ByteArray := prog_11_method_51_code
def yX9_lays : MethodName := ⟨RX9, "lays", "()V"⟩
abbrev cX9_isPair : ByteArray := prog_11_method_52_code
def yX9_isPair : MethodName := ⟨RX9, "isPair", "(III)Z"⟩
abbrev cX9_isHolding : ByteArray := prog_11_method_53_code
def yX9_isHolding : MethodName := ⟨RX9, "isHolding", "(IIIIII)Z"⟩
abbrev cX9_isTold : ByteArray := prog_11_method_54_code
def yX9_isTold : MethodName := ⟨RX9, "isTold", "(II)Z"⟩
abbrev cX9_tiesTwo : ByteArray := prog_11_method_55_code
def yX9_tiesTwo : MethodName := ⟨RX9, "tiesTwo", "(III)V"⟩
abbrev cX9_isOut : ByteArray := prog_11_method_56_code
def yX9_isOut : MethodName := ⟨RX9, "isOut", "(II)Z"⟩
abbrev cX9_laysTies : ByteArray := prog_11_method_57_code
def yX9_laysTies : MethodName := ⟨RX9, "laysTies", "(I)V"⟩
abbrev cX9_firmOf : ByteArray := prog_11_method_58_code
def yX9_firmOf : MethodName := ⟨RX9, "firmOf", "(II)I"⟩
abbrev cX9_fundsOf : ByteArray := prog_11_method_59_code
def yX9_fundsOf : MethodName := ⟨RX9, "fundsOf", "(II)I"⟩
abbrev cX9_isToldCold : ByteArray := prog_11_method_60_code
def yX9_isToldCold : MethodName := ⟨RX9, "isToldCold", "(II)Z"⟩
abbrev cX9_isCaught : ByteArray := prog_11_method_61_code
def yX9_isCaught : MethodName := ⟨RX9, "isCaught", "(II)Z"⟩
abbrev cX9_year : ByteArray := prog_11_method_62_code
def yX9_year : MethodName := ⟨RX9, "year", "(I)V"⟩
abbrev cX9_runs : ByteArray := prog_11_method_63_code
def yX9_runs : MethodName := ⟨RX9, "runs", "(I)V"⟩
abbrev cX9_runs_ : ByteArray := prog_11_method_64_code
def yX9_runs_ : MethodName := ⟨RX9, "runs", "()V"⟩
abbrev cX9_laysNow : ByteArray := prog_11_method_65_code
def yX9_laysNow : MethodName := ⟨RX9, "laysNow", "()V"⟩
abbrev cX9_outBits : ByteArray := prog_11_method_66_code
def yX9_outBits : MethodName := ⟨RX9, "outBits", "(I)I"⟩
abbrev cX9_wideOf : ByteArray := prog_11_method_67_code
def yX9_wideOf : MethodName := ⟨RX9, "wideOf", "(II)I"⟩
abbrev cX9_joinsIn : ByteArray := prog_11_method_68_code
def yX9_joinsIn : MethodName := ⟨RX9, "joinsIn", "(II)I"⟩
abbrev cX9_wideThen : ByteArray := prog_11_method_69_code
def yX9_wideThen : MethodName := ⟨RX9, "wideThen", "(II)I"⟩
abbrev cX9_goesThrough : ByteArray := prog_11_method_70_code
def yX9_goesThrough : MethodName := ⟨RX9, "goesThrough", "(III)Z"⟩
abbrev cX9_isHead : ByteArray := prog_11_method_71_code
def yX9_isHead : MethodName := ⟨RX9, "isHead", "(II)Z"⟩
abbrev cX9_partner : ByteArray := prog_11_method_72_code
def yX9_partner : MethodName := ⟨RX9, "partner", "(II)I"⟩
abbrev cX9_join : ByteArray := prog_11_method_73_code
def yX9_join : MethodName := ⟨RX9, "join", "(II)I"⟩
abbrev cX9_door : ByteArray := prog_11_method_74_code
def yX9_door : MethodName := ⟨RX9, "door", "(I)I"⟩
abbrev cX9_isToldThen : ByteArray := prog_11_method_75_code
def yX9_isToldThen : MethodName := ⟨RX9, "isToldThen", "(II)Z"⟩
abbrev cX9_holds : ByteArray := prog_11_method_76_code
def yX9_holds : MethodName := ⟨RX9, "holds", "(I)I"⟩
abbrev cX9_tied : ByteArray := prog_11_method_77_code
def yX9_tied : MethodName := ⟨RX9, "tied", "(III)I"⟩
abbrev cX9_firm : ByteArray := prog_11_method_78_code
def yX9_firm : MethodName := ⟨RX9, "firm", "(II)I"⟩
abbrev cX9_firmsAt : ByteArray := prog_11_method_79_code
def yX9_firmsAt : MethodName := ⟨RX9, "firmsAt", "(I)I"⟩
abbrev cX9_firms : ByteArray := prog_11_method_80_code
def yX9_firms : MethodName := ⟨RX9, "firms", "(I)I"⟩
abbrev cX9_wide : ByteArray := prog_11_method_81_code
def yX9_wide : MethodName := ⟨RX9, "wide", "(II)I"⟩
abbrev cX9_passes : ByteArray := prog_11_method_82_code
def yX9_passes : MethodName := ⟨RX9, "passes", "(II)I"⟩
abbrev cX9_largest : ByteArray := prog_11_method_83_code
def yX9_largest : MethodName := ⟨RX9, "largest", "(I)I"⟩
abbrev cX9_hairs : ByteArray := prog_11_method_84_code
def yX9_hairs : MethodName := ⟨RX9, "hairs", "(III)I"⟩
abbrev cX9_colds : ByteArray := prog_11_method_85_code
def yX9_colds : MethodName := ⟨RX9, "colds", "(I)I"⟩
abbrev cX9_cold : ByteArray := prog_11_method_86_code
def yX9_cold : MethodName := ⟨RX9, "cold", "(I)I"⟩
abbrev cX9_worth : ByteArray := prog_11_method_87_code
def yX9_worth : MethodName := ⟨RX9, "worth", "(II)I"⟩
abbrev cX9_funds : ByteArray := prog_11_method_88_code
def yX9_funds : MethodName := ⟨RX9, "funds", "(II)I"⟩
abbrev cX9_out : ByteArray := prog_11_method_89_code
def yX9_out : MethodName := ⟨RX9, "out", "(I)I"⟩
abbrev cX9_fails : ByteArray := prog_11_method_90_code
def yX9_fails : MethodName := ⟨RX9, "fails", "(I)I"⟩
abbrev cX9_richest : ByteArray := prog_11_method_91_code
def yX9_richest : MethodName := ⟨RX9, "richest", "(I)I"⟩
abbrev cX9_parts : ByteArray := prog_11_method_92_code
def yX9_parts : MethodName := ⟨RX9, "parts", "(I)I"⟩
abbrev cX9_merger : ByteArray := prog_11_method_93_code
def yX9_merger : MethodName := ⟨RX9, "merger", "()I"⟩
abbrev cX9_apart : ByteArray := prog_11_method_94_code
def yX9_apart : MethodName := ⟨RX9, "apart", "(II)I"⟩
abbrev cX9_singles : ByteArray := prog_11_method_95_code
def yX9_singles : MethodName := ⟨RX9, "singles", "(I)I"⟩
abbrev cX9_total : ByteArray := prog_11_method_96_code
def yX9_total : MethodName := ⟨RX9, "total", "(I)I"⟩
abbrev cX9_isThrough : ByteArray := prog_11_method_97_code
def yX9_isThrough : MethodName := ⟨RX9, "isThrough", "(II)Z"⟩
abbrev cX9_worthOf : ByteArray := prog_11_method_98_code
def yX9_worthOf : MethodName := ⟨RX9, "worthOf", "(I)I"⟩
abbrev cX9_bestSet : ByteArray := prog_11_method_99_code
def yX9_bestSet : MethodName := ⟨RX9, "bestSet", "(I)I"⟩
abbrev cX9_best : ByteArray := prog_11_method_100_code
def yX9_best : MethodName := ⟨RX9, "best", "(I)I"⟩
abbrev cX9_bests : ByteArray := prog_11_method_101_code
def yX9_bests : MethodName := ⟨RX9, "bests", "(I)I"⟩
abbrev cX9_laysSets : ByteArray := prog_11_method_102_code
def yX9_laysSets : MethodName := ⟨RX9, "laysSets", "(I)V"⟩
abbrev cX9_sets : ByteArray := prog_11_method_103_code
def yX9_sets : MethodName := ⟨RX9, "sets", "(I)I"⟩
abbrev cX9_ways : ByteArray := prog_11_method_104_code
def yX9_ways : MethodName := ⟨RX9, "ways", "(I)I"⟩
abbrev cX9_valueOf : ByteArray := prog_11_method_105_code
def yX9_valueOf : MethodName := ⟨RX9, "valueOf", "(II)I"⟩
abbrev cX9_times : ByteArray := prog_11_method_106_code
def yX9_times : MethodName := ⟨RX9, "times", "(I)I"⟩
abbrev cX9_common : ByteArray := prog_11_method_107_code
def yX9_common : MethodName := ⟨RX9, "common", "(II)I"⟩
abbrev cX9_part : ByteArray := prog_11_method_108_code
def yX9_part : MethodName := ⟨RX9, "part", "(III)I"⟩
abbrev cX9_share : ByteArray := prog_11_method_109_code
def yX9_share : MethodName := ⟨RX9, "share", "(III)I"⟩
abbrev cX9_whyNotFair : ByteArray := prog_11_method_110_code
def yX9_whyNotFair : MethodName := ⟨RX9, "whyNotFair", "(II)I"⟩
abbrev cX9_laysGiven : ByteArray := prog_11_method_111_code
def yX9_laysGiven : MethodName := ⟨RX9, "laysGiven", "(II)V"⟩
abbrev cX9_isGivenLess : ByteArray := prog_11_method_112_code
def yX9_isGivenLess : MethodName := ⟨RX9, "isGivenLess", "(IIJ)Z"⟩
abbrev cX9_isGivenJust : ByteArray := prog_11_method_113_code
def yX9_isGivenJust : MethodName := ⟨RX9, "isGivenJust", "(IIJ)Z"⟩
abbrev cX9_leaveOf : ByteArray := prog_11_method_114_code
def yX9_leaveOf : MethodName := ⟨RX9, "leaveOf", "(II)I"⟩
abbrev cX9_fair : ByteArray := prog_11_method_115_code
def yX9_fair : MethodName := ⟨RX9, "fair", "(II)I"⟩
abbrev cX9_leave : ByteArray := prog_11_method_116_code
def yX9_leave : MethodName := ⟨RX9, "leave", "(II)I"⟩
abbrev cX9_laysSnips : ByteArray := prog_11_method_117_code
def yX9_laysSnips : MethodName := ⟨RX9, "laysSnips", "(II)V"⟩
abbrev cX9_snips : ByteArray := prog_11_method_118_code
def yX9_snips : MethodName := ⟨RX9, "snips", "(II)I"⟩
abbrev cX9_snipped : ByteArray := prog_11_method_119_code
def yX9_snipped : MethodName := ⟨RX9, "snipped", "(II)I"⟩
abbrev cX9_wax : ByteArray := prog_11_method_120_code
def yX9_wax : MethodName := ⟨RX9, "wax", "(II)I"⟩
abbrev cX9_guardsOf : ByteArray := prog_11_method_121_code
def yX9_guardsOf : MethodName := ⟨RX9, "guardsOf", "(I)I"⟩
abbrev cX9_guards : ByteArray := prog_11_method_122_code
def yX9_guards : MethodName := ⟨RX9, "guards", "(I)I"⟩
abbrev cX9_guarded : ByteArray := prog_11_method_123_code
def yX9_guarded : MethodName := ⟨RX9, "guarded", "(I)I"⟩
abbrev cX9_coldsAll : ByteArray := prog_11_method_124_code
def yX9_coldsAll : MethodName := ⟨RX9, "coldsAll", "()I"⟩
abbrev cX9_sneezer : ByteArray := prog_11_method_125_code
def yX9_sneezer : MethodName := ⟨RX9, "sneezer", "()I"⟩
abbrev cX9_whyNot : ByteArray := prog_11_method_126_code
def yX9_whyNot : MethodName := ⟨RX9, "whyNot", "(I)I"⟩
abbrev cX9_laysTrue : ByteArray := prog_11_method_127_code
def yX9_laysTrue : MethodName := ⟨RX9, "laysTrue", "(I)V"⟩
abbrev cX9_isSo : ByteArray := prog_11_method_128_code
def yX9_isSo : MethodName := ⟨RX9, "isSo", "(I)Z"⟩
abbrev cX9_laysTrues : ByteArray := prog_11_method_129_code
def yX9_laysTrues : MethodName := ⟨RX9, "laysTrues", "(I)V"⟩
abbrev cX9_trues : ByteArray := prog_11_method_130_code
def yX9_trues : MethodName := ⟨RX9, "trues", "(I)I"⟩
abbrev cX9_surely : ByteArray := prog_11_method_131_code
def yX9_surely : MethodName := ⟨RX9, "surely", "(I)I"⟩
abbrev cX9_never : ByteArray := prog_11_method_132_code
def yX9_never : MethodName := ⟨RX9, "never", "(I)I"⟩
abbrev cX9_ask : ByteArray := prog_11_method_133_code
def yX9_ask : MethodName := ⟨RX9, "ask", "(I)I"⟩
abbrev cX9_leaves : ByteArray := prog_11_method_134_code
def yX9_leaves : MethodName := ⟨RX9, "leaves", "(I)I"⟩
abbrev cX9_laws : ByteArray := prog_11_method_135_code
def yX9_laws : MethodName := ⟨RX9, "laws", "(I)I"⟩
abbrev cX9_by : ByteArray := prog_11_method_136_code
def yX9_by : MethodName := ⟨RX9, "by", "(II)I"⟩
abbrev cX9_getsBy : ByteArray := prog_11_method_137_code
def yX9_getsBy : MethodName := ⟨RX9, "getsBy", "(IIIII)I"⟩
abbrev cX9_rests : ByteArray := prog_11_method_138_code
def yX9_rests : MethodName := ⟨RX9, "rests", "(II)I"⟩
abbrev cX9_gets : ByteArray := prog_11_method_139_code
def yX9_gets : MethodName := ⟨RX9, "gets", "(IIII)I"⟩
abbrev cX9_bothAtLast : ByteArray := prog_11_method_140_code
def yX9_bothAtLast : MethodName := ⟨RX9, "bothAtLast", "(II)I"⟩
abbrev cX9_when : ByteArray := prog_11_method_141_code
def yX9_when : MethodName := ⟨RX9, "when", "(II)I"⟩
abbrev cX9_tens : ByteArray := prog_11_method_142_code
def yX9_tens : MethodName := ⟨RX9, "tens", "()I"⟩
abbrev cX9_weightOf : ByteArray := prog_11_method_143_code
def yX9_weightOf : MethodName := ⟨RX9, "weightOf", "(III)I"⟩
abbrev cX9_chance : ByteArray := prog_11_method_144_code
def yX9_chance : MethodName := ⟨RX9, "chance", "(III)I"⟩
abbrev cX9_through : ByteArray := prog_11_method_145_code
def yX9_through : MethodName := ⟨RX9, "through", "(III)I"⟩
abbrev cX9_mean : ByteArray := prog_11_method_146_code
def yX9_mean : MethodName := ⟨RX9, "mean", "(I)I"⟩
abbrev cX9_draws : ByteArray := prog_11_method_147_code
def yX9_draws : MethodName := ⟨RX9, "draws", "(J)V"⟩
abbrev cX9_isSeed : ByteArray := prog_11_method_148_code
def yX9_isSeed : MethodName := ⟨RX9, "isSeed", "(I)Z"⟩
abbrev cX9_drawn : ByteArray := prog_11_method_149_code
def yX9_drawn : MethodName := ⟨RX9, "drawn", "(II)I"⟩
abbrev cX9_luck : ByteArray := prog_11_method_150_code
def yX9_luck : MethodName := ⟨RX9, "luck", "(III)I"⟩
abbrev cX9_does : ByteArray := prog_11_method_151_code
def yX9_does : MethodName := ⟨RX9, "does", "(IIII)V"⟩
abbrev cX9_weld : ByteArray := prog_11_method_152_code
def yX9_weld : MethodName := ⟨RX9, "weld", "(IIII)I"⟩
abbrev cX9_snip : ByteArray := prog_11_method_153_code
def yX9_snip : MethodName := ⟨RX9, "snip", "(III)I"⟩
abbrev cX9_undo : ByteArray := prog_11_method_154_code
def yX9_undo : MethodName := ⟨RX9, "undo", "()I"⟩
abbrev cX9_anew : ByteArray := prog_11_method_155_code
def yX9_anew : MethodName := ⟨RX9, "anew", "()I"⟩
abbrev cX9_rate : ByteArray := prog_11_method_156_code
def yX9_rate : MethodName := ⟨RX9, "rate", "(I)I"⟩
abbrev cX9_count : ByteArray := prog_11_method_157_code
def yX9_count : MethodName := ⟨RX9, "count", "(I)I"⟩
abbrev cX9_image : ByteArray := prog_11_method_158_code
def yX9_image : MethodName := ⟨RX9, "image", "(I)I"⟩
abbrev cX9_back : ByteArray := prog_11_method_159_code
def yX9_back : MethodName := ⟨RX9, "back", "(I)I"⟩
def RJ6 : String := "java/lang/Integer"
def TJ6 : u_T := fun k => match k with
  | _ => ("", "", "", false)
def tyJ6 : Nat → FieldType := fun k => match k with
  | _ => .int
abbrev wsJ60 : List Cond := u_ws RJ6 TJ6 0
theorem nmJ6 : ∀ a, a < 0 → ∀ b, b < 0 → a ≠ b → (TJ6 a).2.1 ≠ (TJ6 b).2.1 := by decide +kernel
theorem tyJ6_ok : ∀ k, k < 0 → parseFieldDescriptor (TJ6 k).2.2.1 = some (tyJ6 k) := by decide +kernel
abbrev cJ6_bitCount_0f7a4 : ByteArray := prog_12_method_49_code
def yJ6_bitCount_0f7a4 : MethodName := ⟨RJ6, "bitCount", "(I)I"⟩
def RJ13 : String := "java/lang/Long"
def TJ13 : u_T := fun k => match k with
  | _ => ("", "", "", false)
def tyJ13 : Nat → FieldType := fun k => match k with
  | _ => .int
abbrev wsJ130 : List Cond := u_ws RJ13 TJ13 0
theorem nmJ13 : ∀ a, a < 0 → ∀ b, b < 0 → a ≠ b → (TJ13 a).2.1 ≠ (TJ13 b).2.1 := by decide +kernel
theorem tyJ13_ok : ∀ k, k < 0 → parseFieldDescriptor (TJ13 k).2.2.1 = some (tyJ13 k) := by decide +kernel
abbrev cJ13_compare_74951 : ByteArray := prog_13_method_42_code
def yJ13_compare_74951 : MethodName := ⟨RJ13, "compare", "(JJ)I"⟩
def RJ9 : String := "java/lang/Math"
def TJ9 : u_T := fun k => match k with
  | _ => ("", "", "", false)
def tyJ9 : Nat → FieldType := fun k => match k with
  | _ => .int
abbrev wsJ90 : List Cond := u_ws RJ9 TJ9 0
theorem nmJ9 : ∀ a, a < 0 → ∀ b, b < 0 → a ≠ b → (TJ9 a).2.1 ≠ (TJ9 b).2.1 := by decide +kernel
theorem tyJ9_ok : ∀ k, k < 0 → parseFieldDescriptor (TJ9 k).2.2.1 = some (tyJ9 k) := by decide +kernel
abbrev cJ9_abs_067f4 : ByteArray := prog_14_method_61_code
def yJ9_abs_067f4 : MethodName := ⟨RJ9, "abs", "(J)J"⟩
abbrev cJ9_max_7cf53 : ByteArray := prog_14_method_65_code
def yJ9_max_7cf53 : MethodName := ⟨RJ9, "max", "(II)I"⟩
abbrev cJ9_min_7cf53 : ByteArray := prog_14_method_69_code
def yJ9_min_7cf53 : MethodName := ⟨RJ9, "min", "(II)I"⟩
def RJ0 : String := "java/lang/String"
def TJ0 : u_T := fun k => match k with
  | _ => ("", "", "", false)
def tyJ0 : Nat → FieldType := fun k => match k with
  | _ => .int
abbrev wsJ00 : List Cond := u_ws RJ0 TJ0 0
theorem nmJ0 : ∀ a, a < 0 → ∀ b, b < 0 → a ≠ b → (TJ0 a).2.1 ≠ (TJ0 b).2.1 := by decide +kernel
theorem tyJ0_ok : ∀ k, k < 0 → parseFieldDescriptor (TJ0 k).2.2.1 = some (tyJ0 k) := by decide +kernel
abbrev cJ0_length_8abf5 : ByteArray := prog_15_method_54_code
def yJ0_length_8abf5 : MethodName := ⟨RJ0, "length", "()I"⟩
abbrev cJ0_charAt_5068e : ByteArray := prog_15_method_56_code
def yJ0_charAt_5068e : MethodName := ⟨RJ0, "charAt", "(I)C"⟩
abbrev cJ0_coder_7d493 : ByteArray := prog_15_method_152_code
def yJ0_coder_7d493 : MethodName := ⟨RJ0, "coder", "()B"⟩
abbrev cJ0_isLatin1_aae02 : ByteArray := prog_15_method_154_code
def yJ0_isLatin1_aae02 : MethodName := ⟨RJ0, "isLatin1", "()Z"⟩
abbrev cJ0_checkIndex_df160 : ByteArray := prog_15_method_155_code
def yJ0_checkIndex_df160 : MethodName := ⟨RJ0, "checkIndex", "(II)V"⟩
def RJ1 : String := "java/lang/StringLatin1"
def TJ1 : u_T := fun k => match k with
  | _ => ("", "", "", false)
def tyJ1 : Nat → FieldType := fun k => match k with
  | _ => .int
abbrev wsJ10 : List Cond := u_ws RJ1 TJ1 0
theorem nmJ1 : ∀ a, a < 0 → ∀ b, b < 0 → a ≠ b → (TJ1 a).2.1 ≠ (TJ1 b).2.1 := by decide +kernel
theorem tyJ1_ok : ∀ k, k < 0 → parseFieldDescriptor (TJ1 k).2.2.1 = some (tyJ1 k) := by decide +kernel
abbrev cJ1_charAt_3b067 : ByteArray := prog_16_method_2_code
def yJ1_charAt_3b067 : MethodName := ⟨RJ1, "charAt", "([BI)C"⟩
def RJ2 : String := "java/lang/StringUTF16"
def TJ2 : u_T := fun k => match k with
  | _ => ("", "", "", false)
def tyJ2 : Nat → FieldType := fun k => match k with
  | _ => .int
abbrev wsJ20 : List Cond := u_ws RJ2 TJ2 0
theorem nmJ2 : ∀ a, a < 0 → ∀ b, b < 0 → a ≠ b → (TJ2 a).2.1 ≠ (TJ2 b).2.1 := by decide +kernel
theorem tyJ2_ok : ∀ k, k < 0 → parseFieldDescriptor (TJ2 k).2.2.1 = some (tyJ2 k) := by decide +kernel
abbrev cJ2_getChar_3b067 : ByteArray := prog_17_method_5_code
def yJ2_getChar_3b067 : MethodName := ⟨RJ2, "getChar", "([BI)C"⟩
abbrev cJ2_length_9d52b : ByteArray := prog_17_method_6_code
def yJ2_length_9d52b : MethodName := ⟨RJ2, "length", "([B)I"⟩
abbrev cJ2_charAt_3b067 : ByteArray := prog_17_method_83_code
def yJ2_charAt_3b067 : MethodName := ⟨RJ2, "charAt", "([BI)C"⟩
abbrev cJ2_checkIndex_2214a : ByteArray := prog_17_method_91_code
def yJ2_checkIndex_2214a : MethodName := ⟨RJ2, "checkIndex", "(I[B)V"⟩
def RJ10 : String := "java/lang/System"
def TJ10 : u_T := fun k => match k with
  | _ => ("", "", "", false)
def tyJ10 : Nat → FieldType := fun k => match k with
  | _ => .int
abbrev wsJ100 : List Cond := u_ws RJ10 TJ10 0
theorem nmJ10 : ∀ a, a < 0 → ∀ b, b < 0 → a ≠ b → (TJ10 a).2.1 ≠ (TJ10 b).2.1 := by decide +kernel
theorem tyJ10_ok : ∀ k, k < 0 → parseFieldDescriptor (TJ10 k).2.2.1 = some (tyJ10 k) := by decide +kernel
def RJ3 : String := "jdk/internal/util/Preconditions"
def TJ3 : u_T := fun k => match k with
  | _ => ("", "", "", false)
def tyJ3 : Nat → FieldType := fun k => match k with
  | _ => .int
abbrev wsJ30 : List Cond := u_ws RJ3 TJ3 0
theorem nmJ3 : ∀ a, a < 0 → ∀ b, b < 0 → a ≠ b → (TJ3 a).2.1 ≠ (TJ3 b).2.1 := by decide +kernel
theorem tyJ3_ok : ∀ k, k < 0 → parseFieldDescriptor (TJ3 k).2.2.1 = some (tyJ3 k) := by decide +kernel
abbrev cJ3_checkIndex_8e157 : ByteArray := prog_19_method_11_code
def yJ3_checkIndex_8e157 : MethodName := ⟨RJ3, "checkIndex", "(IILjava/util/function/BiFunction;)I"⟩
def RL : String := "WaxedPartnersLaw"
abbrev cL_law : ByteArray := code
def yL_law : MethodName := ⟨RL, "law", "([I)Z"⟩
abbrev vwCl : List vw_C := [(RX0, TX0, 5), (RX1, TX1, 2), (RX2, TX2, 17), (RX3, TX3, 4), (RX4, TX4, 3), (RX5, TX5, 8), (RX6, TX6, 2), (RX7, TX7, 19), (RX8, TX8, 8), (RX9, TX9, 49)]
