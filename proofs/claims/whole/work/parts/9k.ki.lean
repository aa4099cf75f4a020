/-! The start: the world that the constructors leave. -/
def m0I (o : Nat) : Nat → Int32 := match o with
  | 1 => fun j => if j = 3 then -1 else 0
  | 6 => fun j => if j = 1 then -1 else 0
  | 8 => fun j => if j = 1 then -1 else 0
  | 10 => fun j => if j = 1 then -1 else 0
  | 12 => fun j => if j = 1 then -1 else 0
  | 141 => fun j => if j = 15 then -1 else 0
  | 142 => upd (upd (upd (upd (fun _ => 0) 0 (-1)) 1 (-1)) 2 (-1)) 3 (-1)
  | _ => fun _ => 0
def M0 : gMem := (m0I, fun _ _ => 0, fun w => if w = 0 then 126 else 111)
theorem INV_0 : INV M0 := by
  refine ⟨126, v00, (fun _ => -1, fun _ => 0, fun _ _ => 0), ⟨⟨⟨rfl, gTn_ob (tn_2 (Or.inr rfl))⟩, VI_0.1, ?_, ?_, ?_⟩, VI_y VI_0, by decide⟩, ?_, Or.inr ⟨rfl, rfl⟩, fun k hk => ⟨false, rfl, b_0 k, fun h => by cases h⟩, ⟨0, by decide, rfl, rfl, fun k hk => absurd hk (Nat.not_lt_zero k)⟩, rfl, rfl⟩
  · exact ⟨⟨rfl, rfl, rfl, rfl, rfl, rfl, rfl, rfl, rfl, rfl⟩, fun p hp => absurd hp (Nat.not_lt_zero _), fun p hp => absurd hp (Nat.not_lt_zero _), fun p hp => absurd hp (Nat.not_lt_zero _), fun p hp => absurd hp (Nat.not_lt_zero _), fun p hp => absurd hp (Nat.not_lt_zero _)⟩
  · exact ⟨⟨rfl, fun k hk => rfl⟩, fun p hp => absurd hp (Nat.not_lt_zero _), fun p hp => absurd hp (Nat.not_lt_zero _), fun p hp => absurd hp (Nat.not_lt_zero _), fun p hp => absurd hp (Nat.not_lt_zero _)⟩
  · exact ⟨rfl, fun p hp => absurd hp (Nat.not_lt_zero _)⟩
  · intro s hs
    match s, hs with
    | 0, _ => exact ⟨⟨rfl, rfl, rfl, rfl⟩, Nat.zero_le _, fun k hk => absurd hk (Nat.not_lt_zero k)⟩
    | 1, _ => exact ⟨⟨rfl, rfl, rfl, rfl⟩, Nat.zero_le _, fun k hk => absurd hk (Nat.not_lt_zero k)⟩
    | 2, _ => exact ⟨⟨rfl, rfl, rfl, rfl⟩, Nat.zero_le _, fun k hk => absurd hk (Nat.not_lt_zero k)⟩
    | 3, _ => exact ⟨⟨rfl, rfl, rfl, rfl⟩, Nat.zero_le _, fun k hk => absurd hk (Nat.not_lt_zero k)⟩
    | n + 4, hs => omega
def kPos (o : Nat) : Nat := bif Nat.blt o 4 then o else bif Nat.beq o 4 then 19 else bif Nat.beq o 5 then 28 else bif Nat.blt o 14 then o + 14 else bif Nat.blt o 66 then o + 60 else bif Nat.blt o 111 then o - 37 else bif Nat.blt o 126 then o - 107 else o
def kAd (f1 f2 fx : Nat → Nat) (o : Nat) : Nat := bif Nat.blt o 141 then f1 (kPos o) else bif Nat.blt o 162 then f2 (o - 141) else fx o
def kOrd1 : List Nat := [0, 1, 2, 3, 111, 112, 113, 114, 115, 116, 117, 118, 119, 120, 121, 122, 123, 124, 125, 4, 6, 7, 8, 9, 10, 11, 12, 13, 5, 66, 67, 68, 69, 70, 71, 72, 73, 74, 75, 76, 77, 78, 79, 80, 81, 82, 83, 84, 85, 86, 87, 88, 89, 90, 91, 92, 93, 94, 95, 96, 97, 98, 99, 100, 101, 102, 103, 104, 105, 106, 107, 108, 109, 110, 14, 15, 16, 17, 18, 19, 20, 21, 22, 23, 24, 25, 26, 27, 28, 29, 30, 31, 32, 33, 34, 35, 36, 37, 38, 39, 40, 41, 42, 43, 44, 45, 46, 47, 48, 49, 50, 51, 52, 53, 54, 55, 56, 57, 58, 59, 60, 61, 62, 63, 64, 65, 126, 127, 128, 129, 130, 131, 132, 133, 134, 135, 136, 137, 138, 139, 140]
def kOrd2 : List Nat := [141, 142, 143, 144, 145, 146, 147, 148, 149, 150, 151, 152, 153, 154, 155, 156, 157, 158, 159, 160, 161]
section KST
variable (D : va_G) (cA : Nat → ClassId) (f1 f2 fx : Nat → Nat)
/-- the cells, but rows of references as they were made -/
def kF (o : Nat) : Nat × va_E := (kAd f1 f2 fx o,
  if o = 4 then .inl (cA 4, 4, .inr (.inr (.inr (.inr (va_up (va_up (va_up (va_up (fun _ => none) 0 (some (f1 20))) 1 (some (f1 22))) 2 (some (f1 24))) 3 (some (f1 26)))))))
  else if o = 5 then .inl (cA 5, 3, .inr (.inr (.inr (.inr (va_up (va_up (va_up (fun _ => none) 0 (some (f1 29))) 1 (some (f1 44))) 2 (some (f1 59)))))))
  else if o = 22 then .inl (cA 6, 12, .inr (.inr (.inr (.inr (k_12 (fun i => f1 (83 + i)))))))
  else if o = 35 then .inl (cA 6, 12, .inr (.inr (.inr (.inr (k_12 (fun i => f1 (96 + i)))))))
  else if o = 48 then .inl (cA 6, 12, .inr (.inr (.inr (.inr (k_12 (fun i => f1 (109 + i)))))))
  else gCl (D, cA, kAd f1 f2 fx) M0 o)
theorem k_w1_0 : (f1 0, .inr (8, [.ref (f1 1), .ref (f1 19), .ref (f1 28), .ref (f1 74), .ref (f1 121), .ref (f1 124), .ref (f1 126), .int 0])) = kF D cA f1 f2 fx 0 := rfl
set_option maxRecDepth 100000 in
set_option maxHeartbeats 4000000 in
theorem k_w1_1 : (wReader cA (fun i => f1 (1 + i)) : va_W) = ([1, 2, 3, 111, 112, 113, 114, 115, 116, 117, 118, 119, 120, 121, 122, 123, 124, 125] : List Nat).map (kF D cA f1 f2 fx) := rfl
set_option maxRecDepth 100000 in
set_option maxHeartbeats 4000000 in
theorem k_w1_2 : ([(f1 19, .inl (cA 4, 4, .inr (.inr (.inr (.inr (va_up (va_up (va_up (va_up (fun _ => none) 0 (some (f1 20))) 1 (some (f1 22))) 2 (some (f1 24))) 3 (some (f1 26))))))))] : va_W) = ([4] : List Nat).map (kF D cA f1 f2 fx) := rfl
set_option maxRecDepth 100000 in
set_option maxHeartbeats 4000000 in
theorem k_w1_3 : (wNum cA (fun i => f1 (20 + i)) : va_W) = ([6, 7] : List Nat).map (kF D cA f1 f2 fx) := rfl
set_option maxRecDepth 100000 in
set_option maxHeartbeats 4000000 in
theorem k_w1_4 : (wNum cA (fun i => f1 (22 + i)) : va_W) = ([8, 9] : List Nat).map (kF D cA f1 f2 fx) := rfl
set_option maxRecDepth 100000 in
set_option maxHeartbeats 4000000 in
theorem k_w1_5 : (wNum cA (fun i => f1 (24 + i)) : va_W) = ([10, 11] : List Nat).map (kF D cA f1 f2 fx) := rfl
set_option maxRecDepth 100000 in
set_option maxHeartbeats 4000000 in
theorem k_w1_6 : (wNum cA (fun i => f1 (26 + i)) : va_W) = ([12, 13] : List Nat).map (kF D cA f1 f2 fx) := rfl
set_option maxRecDepth 100000 in
set_option maxHeartbeats 4000000 in
theorem k_w1_7 : ([(f1 28, .inl (cA 5, 3, .inr (.inr (.inr (.inr (va_up (va_up (va_up (fun _ => none) 0 (some (f1 29))) 1 (some (f1 44))) 2 (some (f1 59))))))))] : va_W) = ([5] : List Nat).map (kF D cA f1 f2 fx) := rfl
set_option maxRecDepth 100000 in
set_option maxHeartbeats 4000000 in
theorem k_w1_8 : (wTown cA (fun i => f1 (29 + i)) : va_W) = ([66, 67, 68, 69, 70, 71, 72, 73, 74, 75, 76, 77, 78, 79, 80] : List Nat).map (kF D cA f1 f2 fx) := rfl
set_option maxRecDepth 100000 in
set_option maxHeartbeats 4000000 in
theorem k_w1_9 : (wTown cA (fun i => f1 (44 + i)) : va_W) = ([81, 82, 83, 84, 85, 86, 87, 88, 89, 90, 91, 92, 93, 94, 95] : List Nat).map (kF D cA f1 f2 fx) := rfl
set_option maxRecDepth 100000 in
set_option maxHeartbeats 4000000 in
theorem k_w1_10 : (wTown cA (fun i => f1 (59 + i)) : va_W) = ([96, 97, 98, 99, 100, 101, 102, 103, 104, 105, 106, 107, 108, 109, 110] : List Nat).map (kF D cA f1 f2 fx) := rfl
set_option maxRecDepth 100000 in
set_option maxHeartbeats 4000000 in
theorem k_w1_11 : (wDecade cA (fun i => f1 (74 + i)) : va_W) = ([14, 15, 16, 17, 18, 19, 20, 21, 22, 23, 24, 25, 26, 27, 28, 29, 30, 31, 32, 33, 34, 35, 36, 37, 38, 39, 40, 41, 42, 43, 44, 45, 46, 47, 48, 49, 50, 51, 52, 53, 54, 55, 56, 57, 58, 59, 60] : List Nat).map (kF D cA f1 f2 fx) := rfl
set_option maxRecDepth 100000 in
set_option maxHeartbeats 4000000 in
theorem k_w1_12 : (wCrowd cA (fun i => f1 (121 + i)) : va_W) = ([61, 62, 63] : List Nat).map (kF D cA f1 f2 fx) := rfl
set_option maxRecDepth 100000 in
set_option maxHeartbeats 4000000 in
theorem k_w1_13 : (wGum cA (fun i => f1 (124 + i)) : va_W) = ([64, 65] : List Nat).map (kF D cA f1 f2 fx) := rfl
set_option maxRecDepth 100000 in
set_option maxHeartbeats 4000000 in
theorem k_w1_14 : (wTown cA (fun i => f1 (126 + i)) : va_W) = ([126, 127, 128, 129, 130, 131, 132, 133, 134, 135, 136, 137, 138, 139, 140] : List Nat).map (kF D cA f1 f2 fx) := rfl
theorem k_w1 : wMain cA f1 = kOrd1.map (kF D cA f1 f2 fx) := by
  unfold wMain
  rw [k_w1_0 D cA f1 f2 fx, k_w1_1 D cA f1 f2 fx, k_w1_2 D cA f1 f2 fx, k_w1_3 D cA f1 f2 fx, k_w1_4 D cA f1 f2 fx, k_w1_5 D cA f1 f2 fx, k_w1_6 D cA f1 f2 fx, k_w1_7 D cA f1 f2 fx, k_w1_8 D cA f1 f2 fx, k_w1_9 D cA f1 f2 fx, k_w1_10 D cA f1 f2 fx, k_w1_11 D cA f1 f2 fx, k_w1_12 D cA f1 f2 fx, k_w1_13 D cA f1 f2 fx, k_w1_14 D cA f1 f2 fx]
  rw [← List.map_append, ← List.map_append, ← List.map_append, ← List.map_append, ← List.map_append, ← List.map_append, ← List.map_append, ← List.map_append, ← List.map_append, ← List.map_append, ← List.map_append, ← List.map_append, ← List.map_append]
  rw [← List.map_cons]
  rfl
set_option maxRecDepth 100000 in
set_option maxHeartbeats 4000000 in
theorem k_w2 : wModel cA f2 = kOrd2.map (kF D cA f1 f2 fx) := rfl
end KST
theorem k_ord : ∀ o, o < 162 → o ∈ kOrd1 ++ kOrd2 := by decide +kernel
theorem arrV_c {c : ClassId} {n : Nat} {y z : Nat → Value} (h : ∀ i, i < n → y i = z i) : arrV c n y = arrV c n z := by
  unfold arrV
  congr 1
  congr 1
  funext j
  exact h j.val j.isLt
theorem k_vc {D : va_G} {cl : List vw_C} {q n : Nat} {c : ClassId} {f g : Nat → Option Nat} {H : Heap} (h : ∀ i, i < n → f i = g i) (k : va_at D cl (q, .inl (c, n, .inr (.inr (.inr (.inr f))))) H) : va_at D cl (q, .inl (c, n, .inr (.inr (.inr (.inr g))))) H := by
  have k1 : H[q]? = some (vp_cell c (n, .inr (.inr (.inr (.inr f))))) := k
  show H[q]? = some (vp_cell c (n, .inr (.inr (.inr (.inr g)))))
  rw [k1, vp_cell_q, vp_cell_q, arrV_c (fun i hi => by rw [h i hi])]
theorem k_G {D : va_G} {cA : Nat → ClassId} {f1 f2 : Nat → Nat} (fx : Nat → Nat) {H : Heap} (hP : va_P D vwCl (wMain cA f1 ++ wModel cA f2) H) : va_P D vwCl (gWs (D, cA, kAd f1 f2 fx) M0) H := by
  rw [k_w1 D cA f1 f2 fx, k_w2 D cA f1 f2 fx, ← List.map_append] at hP
  intro k q hq
  have hk : k < gN := by
    have := (List.getElem?_eq_some_iff.mp hq).1
    rwa [gWs_len] at this
  rw [gWs_at hk] at hq
  cases hq
  obtain ⟨j, hj⟩ := List.getElem?_of_mem (k_ord k hk)
  have h := hP j (kF D cA f1 f2 fx k) (by rw [List.getElem?_map, hj]; rfl)
  unfold kF at h
  by_cases c4 : k = 4
  · subst c4
    rw [if_pos rfl] at h
    refine k_vc (fun i hi => ?_) h
    match i, hi with
    | 0, _ => rfl
    | 1, _ => rfl
    | 2, _ => rfl
    | 3, _ => rfl
    | n + 4, hi => omega
  · rw [if_neg c4] at h
    by_cases c5 : k = 5
    · subst c5
      rw [if_pos rfl] at h
      refine k_vc (fun i hi => ?_) h
      match i, hi with
      | 0, _ => rfl
      | 1, _ => rfl
      | 2, _ => rfl
      | n + 3, hi => omega
    · rw [if_neg c5] at h
      by_cases c22 : k = 22
      · subst c22
        rw [if_pos rfl] at h
        refine k_vc (fun i hi => ?_) h
        match i, hi with
        | 0, _ => rfl
        | 1, _ => rfl
        | 2, _ => rfl
        | 3, _ => rfl
        | 4, _ => rfl
        | 5, _ => rfl
        | 6, _ => rfl
        | 7, _ => rfl
        | 8, _ => rfl
        | 9, _ => rfl
        | 10, _ => rfl
        | 11, _ => rfl
        | n + 12, hi => omega
      · rw [if_neg c22] at h
        by_cases c35 : k = 35
        · subst c35
          rw [if_pos rfl] at h
          refine k_vc (fun i hi => ?_) h
          match i, hi with
          | 0, _ => rfl
          | 1, _ => rfl
          | 2, _ => rfl
          | 3, _ => rfl
          | 4, _ => rfl
          | 5, _ => rfl
          | 6, _ => rfl
          | 7, _ => rfl
          | 8, _ => rfl
          | 9, _ => rfl
          | 10, _ => rfl
          | 11, _ => rfl
          | n + 12, hi => omega
        · rw [if_neg c35] at h
          by_cases c48 : k = 48
          · subst c48
            rw [if_pos rfl] at h
            refine k_vc (fun i hi => ?_) h
            match i, hi with
            | 0, _ => rfl
            | 1, _ => rfl
            | 2, _ => rfl
            | 3, _ => rfl
            | 4, _ => rfl
            | 5, _ => rfl
            | 6, _ => rfl
            | 7, _ => rfl
            | 8, _ => rfl
            | 9, _ => rfl
            | 10, _ => rfl
            | 11, _ => rfl
            | n + 12, hi => omega
          · rw [if_neg c48] at h
            exact h
theorem k_J {D : va_G} {cA : Nat → ClassId} {f1 f2 : Nat → Nat} (fx : Nat → Nat) {A : Nat → Prop} (hD : va_D A (wMain cA f1 ++ wModel cA f2)) : gInj (D, cA, kAd f1 f2 fx) ∧ ∀ o, o < gN → A (kAd f1 f2 fx o) := by
  rw [k_w1 D cA f1 f2 fx, k_w2 D cA f1 f2 fx, ← List.map_append] at hD
  refine ⟨fun i j hi hj e => ?_, fun o ho => ?_⟩
  · obtain ⟨a, ha⟩ := List.getElem?_of_mem (k_ord i hi)
    obtain ⟨b, hb⟩ := List.getElem?_of_mem (k_ord j hj)
    have := hD.1 a b (kF D cA f1 f2 fx i) (kF D cA f1 f2 fx j) (by rw [List.getElem?_map, ha]; rfl) (by rw [List.getElem?_map, hb]; rfl) e
    subst this
    rw [ha] at hb
    exact Option.some.inj hb
  · obtain ⟨a, ha⟩ := List.getElem?_of_mem (k_ord o ho)
    exact hD.2 a (kF D cA f1 f2 fx o) (by rw [List.getElem?_map, ha]; rfl)
