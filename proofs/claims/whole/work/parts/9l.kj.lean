/-! The start: what the Statement gives. -/
theorem wd_1_20 : Cond.instantiable "WaxedPartners" 8 ∈ gT := gT_in (tb_1 _ (List.mem_of_getElem? (i := 20) (by decide +kernel))) rfl
theorem wd_5_212 : Cond.instantiable "WaxedPartnersModel" 49 ∈ gT := gT_in (tb_5 _ (List.mem_of_getElem? (i := 212) (by decide +kernel))) rfl
theorem wd_1_19 : Cond.classLink "WaxedPartnersLaw" 7 "WaxedPartners" ∈ gT := gT_in (tb_1 _ (List.mem_of_getElem? (i := 19) (by decide +kernel))) rfl
theorem wd_1_21 : Cond.methodLink "WaxedPartnersLaw" 9 ⟨"WaxedPartners", "<init>", "()V"⟩ ∈ gT := gT_in (tb_1 _ (List.mem_of_getElem? (i := 21) (by decide +kernel))) rfl
theorem wd_1_22 : Cond.instanceMethod ⟨"WaxedPartners", "<init>", "()V"⟩ ∈ gT := gT_in (tb_1 _ (List.mem_of_getElem? (i := 22) (by decide +kernel))) rfl
theorem wd_5_211 : Cond.classLink "WaxedPartnersLaw" 10 "WaxedPartnersModel" ∈ gT := gT_in (tb_5 _ (List.mem_of_getElem? (i := 211) (by decide +kernel))) rfl
theorem wd_5_213 : Cond.methodLink "WaxedPartnersLaw" 12 ⟨"WaxedPartnersModel", "<init>", "()V"⟩ ∈ gT := gT_in (tb_5 _ (List.mem_of_getElem? (i := 213) (by decide +kernel))) rfl
theorem wd_5_214 : Cond.instanceMethod ⟨"WaxedPartnersModel", "<init>", "()V"⟩ ∈ gT := gT_in (tb_5 _ (List.mem_of_getElem? (i := 214) (by decide +kernel))) rfl
theorem k_kn {s : State} {args : Array Value} (hts : ∀ w ∈ lw_tbl, w.before args s = true) : ∃ D : va_G, ∀ (k : Nat) (q : vw_C), vwCl[k]? = some q → u_Kn s q.1 q.2.1 q.2.2 (D.1 k) (D.2 k) := by
  have one : ∀ k, k < 10 → gCk k ∧ Cond.instantiable (gC k).1 (gNf k) ∈ gT := fun k hk => by
    match k, hk with
    | 0, _ => exact ⟨ck_0, wd_1_56⟩
    | 1, _ => exact ⟨ck_1, wd_2_88⟩
    | 2, _ => exact ⟨ck_2, wd_2_15⟩
    | 3, _ => exact ⟨ck_3, wd_2_103⟩
    | 4, _ => exact ⟨ck_4, wd_1_230⟩
    | 5, _ => exact ⟨ck_5, wd_1_28⟩
    | 6, _ => exact ⟨ck_6, wd_1_34⟩
    | 7, _ => exact ⟨ck_7, wd_1_50⟩
    | 8, _ => exact ⟨ck_8, wd_1_20⟩
    | 9, _ => exact ⟨ck_9, wd_5_212⟩
    | n + 10, hk => omega
  have key : ∀ k : Nat, ∃ x : ClassId × (Nat → Nat), ∀ q : vw_C, vwCl[k]? = some q → u_Kn s q.1 q.2.1 q.2.2 x.1 x.2 := fun k => by
    by_cases hk : k < 10
    · obtain ⟨h1, h2⟩ := one k hk
      obtain ⟨cC, iS, h⟩ := u_known (C := (gC k).1) (T := (gC k).2.1) (N := gNf k) (n := gNf k) hts (fun w hw => (List.mem_filter.mp (h1.2.1 w hw)).1) (hts _ (List.mem_filter.mp h2).1)
      refine ⟨(cC, iS), fun q hq => ?_⟩
      rw [h1.1] at hq
      cases hq
      exact h
    · refine ⟨(0, fun _ => 0), fun q hq => ?_⟩
      have := (List.getElem?_eq_some_iff.mp hq).1
      exact absurd this hk
  exact ⟨(fun k => (Classical.choose (key k)).1, fun k => (Classical.choose (key k)).2), fun k q hq => Classical.choose_spec (key k) q hq⟩
theorem k_arr {s : State} {args : Array Value} (hts : ∀ w ∈ lw_tbl, w.before args s = true) : ∃ cA : Nat → ClassId, ∀ (k : Nat) (q : ClassId × FieldType), (kTys cA)[k]? = some q → ArrOfT s q.1 q.2 ∧ va_RA s q.1 q.2 := by
  have pr : ∀ t : FieldType, Cond.arrayClass t ∈ lw_tbl → ∃ cB : ClassId, ArrOfT s cB t ∧ s.vm.findClass ("[" ++ t.toString) = some cB := fun t ht => by
    obtain ⟨cB, kA, comp, e1, e2, e3⟩ := Cond.arrayClass_spec (hts _ ht)
    exact ⟨cB, fun N z => ⟨(fun k h => by cases h), kA, e2, comp, e3⟩, e1⟩
  have po : ∀ E : String, Cond.arrayOver (.object E) ∈ lw_tbl → ∃ cB : ClassId, ArrOfT s cB (.object E) ∧ va_RA s cB (.object E) := fun E hE => by
    obtain ⟨comp, cB, kA, e1, -, e3, e4, e5⟩ := Cond.arrayOver_spec (hts _ hE)
    exact ⟨cB, fun N z => ⟨(fun k h => by cases h), kA, e3, comp, e4⟩, kA, comp, e3, e4, e1, e5⟩
  obtain ⟨c0, a0, b0⟩ := pr .int (tb_1 _ (List.mem_of_getElem? (i := 84) (by decide +kernel)))
  obtain ⟨c1, a1, b1'⟩ := pr .byte (tb_1 _ (List.mem_of_getElem? (i := 48) (by decide +kernel)))
  obtain ⟨c2, a2, b2⟩ := pr .boolean (tb_6 _ (List.mem_of_getElem? (i := 125) (by decide +kernel)))
  obtain ⟨c3, a3, b3⟩ := pr .long (tb_2 _ (List.mem_of_getElem? (i := 10) (by decide +kernel)))
  obtain ⟨c4, a4, b4⟩ := po "WaxedPartners$Numbers" (tb_1 _ (List.mem_of_getElem? (i := 229) (by decide +kernel)))
  obtain ⟨c5, a5, b5⟩ := po "WaxedPartners$Town" (tb_2 _ (List.mem_of_getElem? (i := 12) (by decide +kernel)))
  obtain ⟨comp, c6, kA, -, e3, e4, e5⟩ := Cond.arrayOver_specA (t := .int) (hts _ (tb_2 _ (List.mem_of_getElem? (i := 21) (by decide +kernel))))
  have a6 : ArrOfT s c6 (.array .int) := fun N z => ⟨(fun k h => by cases h), kA, e3, comp, e4⟩
  refine ⟨fun i => match i with
    | 0 => c0
    | 1 => c1
    | 2 => c2
    | 3 => c3
    | 4 => c4
    | 5 => c5
    | _ => c6, fun k q hq => ?_⟩
  match k, hq with
  | 0, hq => cases hq; exact ⟨a0, b0⟩
  | 1, hq => cases hq; exact ⟨a1, b1'⟩
  | 2, hq => cases hq; exact ⟨a2, b2⟩
  | 3, hq => cases hq; exact ⟨a3, b3⟩
  | 4, hq => cases hq; exact ⟨a4, b4⟩
  | 5, hq => cases hq; exact ⟨a5, b5⟩
  | 6, hq => cases hq; exact ⟨a6, e5⟩
  | n + 7, hq => simp [kTys] at hq
theorem k_nst {s : State} {args : Array Value} (hts : ∀ w ∈ lw_tbl, w.before args s = true) : ∀ w ∈ gNst, va_Nw w s := fun w hm => by
  have h1 := List.mem_filter.mp hm
  have hb := hts w h1.1
  have hf := h1.2
  cases w with
  | methodLinkNest a i x g => exact va_Nw.of rfl hb
  | _ => simp at hf
theorem k_nsf {s : State} {args : Array Value} (hts : ∀ w ∈ lw_tbl, w.before args s = true) : ∀ w ∈ gNsf, va_Nw w s := fun w hm => by
  have h1 := List.mem_filter.mp hm
  have hb := hts w h1.1
  have hf := h1.2
  cases w with
  | fieldLinkNest a i b n d g => exact va_Nw.of rfl hb
  | _ => simp at hf
theorem k_kZ {s : State} {args : Array Value} (hts : ∀ w ∈ lw_tbl, w.before args s = true) : kZ s := ⟨k_nst hts, hts (.arrayOver (.object RX4)) (tb_1 _ (List.mem_of_getElem? (i := 229) (by decide +kernel))), hts (.arrayOver (.object RX7)) (tb_2 _ (List.mem_of_getElem? (i := 12) (by decide +kernel))), hts (.arrayOver (.array .int)) (tb_2 _ (List.mem_of_getElem? (i := 21) (by decide +kernel)))⟩
def kFl : List Cond := flatC (Jvm.Cond.and given_1 narrow_1)
def kFac : Term := .static "WaxedPartners" "FACTORIALS" "[I"
def kTm (i : Nat) : Term := .string "WaxedPartners$Reader" (gTxi i)
def kTv (i : Nat) : Term := .field (kTm i) "java/lang/String" "value" "[B"
set_option maxRecDepth 100000 in
theorem k_f1 : Cond.arrayOf kFac .int ∈ kFl ∧ Cond.eq (.length kFac) (.int 7) ∈ kFl ∧ Cond.eq (.static "java/lang/String" "COMPACT_STRINGS" "Z") (.int 1) ∈ kFl ∧ Cond.isRef (.static "jdk/internal/util/Preconditions" "SIOOBE_FORMATTER" "Ljava/util/function/BiFunction;") ∈ kFl := by decide +kernel
set_option maxRecDepth 100000 in
theorem k_f2 : ∀ j, j < 7 → Cond.eq (.elem kFac (.int (Int32.ofNat j))) (.int (gFac j)) ∈ kFl := by decide +kernel
set_option maxRecDepth 100000 in
theorem k_f3 : ∀ i, i < 14 → Cond.exactly (kTm i) "java/lang/String" ∈ kFl ∧ Cond.eq (.field (kTm i) "java/lang/String" "coder" "B") (.int 0) ∈ kFl ∧ Cond.arrayOf (kTv i) .byte ∈ kFl ∧ Cond.eq (.length (kTv i)) (.int (Int32.ofNat (gTxl.getD i 0))) ∈ kFl := by decide +kernel
set_option maxRecDepth 100000 in
theorem k_f4 : ∀ i, i < 14 → ∀ j, j < gTxl.getD i 0 → Cond.eq (.elem (kTv i) (.int (Int32.ofNat j))) (.int ((gTxb.getD i []).getD j 0)) ∈ kFl := by decide +kernel
def kIx : List Nat := [0, 56, 64, 75, 86, 101, 114, 129, 145, 161, 177, 195, 214, 232]
set_option maxRecDepth 100000 in
theorem k_f5a : ∀ j, j < 14 → ∀ i, i < j → kFl[kIx.getD j 0 + i]? = some (Cond.not (Cond.eq (kTm i) (kTm j))) := by decide +kernel
theorem k_f5 : ∀ i, i < 14 → ∀ j, j < 14 → i ≠ j → Cond.not (Cond.eq (kTm i) (kTm j)) ∈ kFl ∨ Cond.not (Cond.eq (kTm j) (kTm i)) ∈ kFl := fun i hi j hj hij => by
  rcases Nat.lt_or_gt_of_ne hij with h | h
  · exact Or.inl (List.mem_of_getElem? (k_f5a j hj i h))
  · exact Or.inr (List.mem_of_getElem? (k_f5a i hi j h))
theorem k_len : ∀ i, i < 14 → gTxl.getD i 0 < 2 ^ 31 := by decide +kernel
theorem k_gZ {s : State} {b : Nat} (hts : ∀ w ∈ lw_tbl, w.before #[Value.ref b] s = true) (hgv : (Jvm.Cond.and given_1 narrow_1).before #[Value.ref b] s = true) : ∃ fx : Nat → Nat, fx 960 = b ∧ ∀ G : gG, (∀ o, 162 ≤ o → G.2.2 o = fx o) → (∀ q, gA G q → s.heap.size ≤ q) → gZ G s := by
  have fl : ∀ c ∈ kFl, c.before #[Value.ref b] s = true := flat_of_before _ hgv
  have hA : ∀ a : Nat, a < s.heap.size → ¬ (fun q : Nat => s.heap.size ≤ q) a := fun a h => Nat.not_le.mpr h
  obtain ⟨t, ht, hT⟩ := va_Tof (tm := kFac) (ty := .int) (N := 7) (f := fun j => .int (gFac j)) (A := fun q : Nat => s.heap.size ≤ q) (by decide) (fl _ k_f1.1) (va_eqt (fl _ k_f1.2.1)) (fun j hj => va_eqt (fl _ (k_f2 j hj))) hA
  have hF := va_Zof (C := "WaxedPartners") (n := "FACTORIALS") (d := "[I") (hts _ (tb_4 _ (List.mem_of_getElem? (i := 124) (by decide +kernel)))) (hts _ (tb_1 _ (List.mem_of_getElem? (i := 1) (by decide +kernel)))) ht hA
  have hC := va_Zof (C := "java/lang/String") (n := "COMPACT_STRINGS") (d := "Z") (hts _ (tb_2 _ (List.mem_of_getElem? (i := 226) (by decide +kernel)))) (hts _ (tb_1 _ (List.mem_of_getElem? (i := 12) (by decide +kernel)))) (va_eqi (fl _ k_f1.2.2.1)) hA
  have hB := va_Zqof (C := "jdk/internal/util/Preconditions") (n := "SIOOBE_FORMATTER") (d := "Ljava/util/function/BiFunction;") (hts _ (tb_3 _ (List.mem_of_getElem? (i := 2) (by decide +kernel)))) (hts _ (tb_1 _ (List.mem_of_getElem? (i := 14) (by decide +kernel)))) (fl _ k_f1.2.2.2) hA
  obtain ⟨adK, adV, hS, hE⟩ := vk_Sof (args := #[Value.ref b]) (N := 14) (tm := kTm) (len := gTxl) (byt := gTxb) (A := fun q : Nat => s.heap.size ≤ q) k_len (fun i hi => fl _ (k_f3 i hi).1) (fun i hi => fl _ (k_f3 i hi).2.1) (fun i hi => fl _ (k_f3 i hi).2.2.1) (fun i hi => fl _ (k_f3 i hi).2.2.2) (fun i hi j hj => fl _ (k_f4 i hi j hj)) (fun i j hi hj hij => (k_f5 i hi j hj hij).elim (fun h => Or.inl (fl _ h)) (fun h => Or.inr (fl _ h))) hA
  have hR : ∀ i, i < 14 → vk_R "WaxedPartners$Reader" (gTxi i) (gTxt i) (adK i) s := fun i hi => vk_R.of (A := #[Value.ref b]) (by
    match i, hi with
    | 0, _ => exact hts (.stringRef "WaxedPartners$Reader" 84 "city") (tb_2 _ (List.mem_of_getElem? (i := 208) (by decide +kernel)))
    | 1, _ => exact hts (.stringRef "WaxedPartners$Reader" 90 "years") (tb_3 _ (List.mem_of_getElem? (i := 29) (by decide +kernel)))
    | 2, _ => exact hts (.stringRef "WaxedPartners$Reader" 98 "law") (tb_3 _ (List.mem_of_getElem? (i := 34) (by decide +kernel)))
    | 3, _ => exact hts (.stringRef "WaxedPartners$Reader" 102 "slump") (tb_3 _ (List.mem_of_getElem? (i := 35) (by decide +kernel)))
    | 4, _ => exact hts (.stringRef "WaxedPartners$Reader" 106 "odds") (tb_3 _ (List.mem_of_getElem? (i := 36) (by decide +kernel)))
    | 5, _ => exact hts (.stringRef "WaxedPartners$Reader" 53 "partner") (tb_3 _ (List.mem_of_getElem? (i := 37) (by decide +kernel)))
    | 6, _ => exact hts (.stringRef "WaxedPartners$Reader" 113 "wide") (tb_3 _ (List.mem_of_getElem? (i := 42) (by decide +kernel)))
    | 7, _ => exact hts (.stringRef "WaxedPartners$Reader" 119 "worth") (tb_3 _ (List.mem_of_getElem? (i := 43) (by decide +kernel)))
    | 8, _ => exact hts (.stringRef "WaxedPartners$Reader" 124 "gains") (tb_3 _ (List.mem_of_getElem? (i := 44) (by decide +kernel)))
    | 9, _ => exact hts (.stringRef "WaxedPartners$Reader" 62 "join") (tb_3 _ (List.mem_of_getElem? (i := 45) (by decide +kernel)))
    | 10, _ => exact hts (.stringRef "WaxedPartners$Reader" 140 "wax") (tb_3 _ (List.mem_of_getElem? (i := 50) (by decide +kernel)))
    | 11, _ => exact hts (.stringRef "WaxedPartners$Reader" 67 "door") (tb_3 _ (List.mem_of_getElem? (i := 51) (by decide +kernel)))
    | 12, _ => exact hts (.stringRef "WaxedPartners$Reader" 72 "cold") (tb_3 _ (List.mem_of_getElem? (i := 56) (by decide +kernel)))
    | 13, _ => exact hts (.stringRef "WaxedPartners$Reader" 157 "at") (tb_3 _ (List.mem_of_getElem? (i := 61) (by decide +kernel)))
    | n + 14, hi => omega) (hE i hi)
  obtain ⟨tq, hB⟩ : ∃ tq, va_Z "jdk/internal/util/Preconditions" "SIOOBE_FORMATTER" "Ljava/util/function/BiFunction;" .null (fun q : Nat => s.heap.size ≤ q) s s.heap ∨ va_Z "jdk/internal/util/Preconditions" "SIOOBE_FORMATTER" "Ljava/util/function/BiFunction;" (.ref tq) (fun q : Nat => s.heap.size ≤ q) s s.heap := by
    rcases hB with h | ⟨tq, h⟩
    · exact ⟨0, Or.inl h⟩
    · exact ⟨tq, Or.inr h⟩
  refine ⟨fun o => if o = 960 then b else if o = 950 then tq else if o = 900 then t else if o < 930 then adK (o - 910) else adV (o - 930), if_pos rfl, fun G hG hAG => ?_⟩
  have g900 : G.2.2 900 = t := (hG 900 (by omega)).trans rfl
  have g950 : G.2.2 950 = tq := (hG 950 (by omega)).trans rfl
  have gK : ∀ i, i < 14 → G.2.2 (910 + i) = adK i := fun i hi => (hG (910 + i) (by omega)).trans (by
    show (if 910 + i = 960 then b else if 910 + i = 950 then tq else if 910 + i = 900 then t else if 910 + i < 930 then adK (910 + i - 910) else adV (910 + i - 930)) = adK i
    rw [if_neg (by omega), if_neg (by omega), if_neg (by omega), if_pos (by omega), Nat.add_sub_cancel_left])
  have gV' : ∀ i, i < 14 → G.2.2 (930 + i) = adV i := fun i hi => (hG (930 + i) (by omega)).trans (by
    show (if 930 + i = 960 then b else if 930 + i = 950 then tq else if 930 + i = 900 then t else if 930 + i < 930 then adK (930 + i - 910) else adV (930 + i - 930)) = adV i
    rw [if_neg (by omega), if_neg (by omega), if_neg (by omega), if_neg (by omega), Nat.add_sub_cancel_left])
  refine ⟨by rw [g900]; exact hF.narrow hAG, by rw [g900]; exact hT.narrow hAG, k_nst hts, k_nsf hts, hC.narrow hAG, ?_, ⟨fun i hi => ?_, fun i j hi hj e => ?_⟩, fun i hi => by rw [gK i hi]; exact hR i hi⟩
  · rw [g950]
    exact hB.elim (fun h => Or.inl (h.narrow hAG)) (fun h => Or.inr (h.narrow hAG))
  · have := (hS.narrow hAG).1 i hi
    show va_O "java/lang/String" (G.2.2 (910 + i)) (gA G) s s.heap ∧ va_OF "java/lang/String" "coder" "B" (.int 0) (G.2.2 (910 + i)) (gA G) s s.heap ∧ va_OF "java/lang/String" "value" "[B" (.ref (G.2.2 (930 + i))) (G.2.2 (910 + i)) (gA G) s s.heap ∧ va_T .byte (G.2.2 (930 + i)) (gTxl.getD i 0) (fun j => .int ((gTxb.getD i []).getD j 0)) (gA G) s s.heap
    rw [gK i hi, gV' i hi]; exact this
  · have e' : G.2.2 (910 + i) = G.2.2 (910 + j) := e
    rw [gK i hi, gK j hj] at e'
    exact hS.2 i j hi hj e'
