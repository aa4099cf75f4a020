/-! Exact functions of methods: loops, checks, calls; and that the machine goes as they say. -/
def gFu : Nat := 4096
def gLp {σ ρ : Type} (f : σ → Option (Sum σ ρ)) : Nat → σ → Option ρ
  | 0, _ => none
  | n + 1, s => match f s with
    | some (.inl s') => gLp f n s'
    | some (.inr r) => some r
    | none => none
def gOKq {α : Type} (x : Option α) (P : α → Prop) : Prop := match x with
  | some a => P a
  | none => False
def gEx {σ ρ : Type} (x : Option ρ) : Option (Sum σ ρ) := match x with
  | some a => some (.inr a)
  | none => none
def gBp {α β ρ : Type} (x : Option (α × β)) (k : α → β → Option ρ) : Option ρ := match x with
  | some q => k q.1 q.2
  | none => none
def gB0 {α ρ : Type} (x : Option α) (k : α → Option ρ) : Option ρ := match x with
  | some q => k q
  | none => none
def gNl {ρ : Type} (v : Value) (a : Option ρ) (b : Nat → Option ρ) : Option ρ := match v with
  | .null => a
  | .ref o => b o
  | _ => none
def gMx (x y : Int32) : Int32 := if x < y then y else x
def gMn (x y : Int32) : Int32 := if y < x then y else x
theorem gLp_go {σ ρ : Type} {f : σ → Option (Sum σ ρ)} {K : σ → Prop} {P : ρ → Prop} (step : ∀ s, gOKq (f s) (Sum.elim K P) → K s) : ∀ (n : Nat) (s : σ), gOKq (gLp f n s) P → K s
  | 0, s, h => h.elim
  | n + 1, s, h => by
    refine step s ?_
    unfold gLp at h
    generalize f s = x at h
    match x, h with
    | some (.inl s'), h => exact gLp_go step n s' h
    | some (.inr r), h => exact h
    | none, h => exact h.elim
theorem gq_if {α : Type} {P : α → Prop} {c : Prop} [inst : Decidable c] {x : Option α} (h : gOKq (ite c x none) P) : c ∧ gOKq x P := by
  by_cases hc : c
  · rw [if_pos hc] at h; exact ⟨hc, h⟩
  · rw [if_neg hc] at h; exact h.elim
theorem gq_no {α : Type} {P : α → Prop} {c : Prop} [inst : Decidable c] {x : Option α} (h : gOKq (ite c none x) P) : ¬ c ∧ gOKq x P := by
  by_cases hc : c
  · rw [if_pos hc] at h; exact h.elim
  · rw [if_neg hc] at h; exact ⟨hc, h⟩
theorem gq_pos {α : Type} {P : α → Prop} {c : Prop} [inst : Decidable c] {x y : Option α} (hc : c) (h : gOKq (ite c x y) P) : gOKq x P := by
  rw [if_pos hc] at h; exact h
theorem gq_neg {α : Type} {P : α → Prop} {c : Prop} [inst : Decidable c] {x y : Option α} (hc : ¬ c) (h : gOKq (ite c x y) P) : gOKq y P := by
  rw [if_neg hc] at h; exact h
theorem gq_of {α : Type} {x : Option α} {q : α} (h : x = some q) : gOKq x (fun p => p = q) := by
  rw [h]; exact rfl
theorem gEx_ok {σ ρ : Type} {x : Option ρ} {P : Sum σ ρ → Prop} (h : gOKq (gEx x) P) : gOKq x (fun q => P (.inr q)) := by
  match x, h with
  | some a, h => exact h
  | none, h => exact h.elim
theorem gBp_ok {α β ρ : Type} {x : Option (α × β)} {k : α → β → Option ρ} {P : ρ → Prop} (h : gOKq (gBp x k) P) : ∃ r N, x = some (r, N) ∧ gOKq (k r N) P := by
  match x, h with
  | some q, h => exact ⟨q.1, q.2, rfl, h⟩
  | none, h => exact h.elim
theorem gB0_ok {α ρ : Type} {x : Option α} {k : α → Option ρ} {P : ρ → Prop} (h : gOKq (gB0 x k) P) : ∃ r, x = some r ∧ gOKq (k r) P := by
  match x, h with
  | some q, h => exact ⟨q, rfl, h⟩
  | none, h => exact h.elim
theorem gq_nl {ρ : Type} {v : Value} {a : Option ρ} {b : Nat → Option ρ} {P : ρ → Prop} (h : gOKq (gNl v a b) P) : (v = .null ∧ gOKq a P) ∨ ∃ o, v = .ref o ∧ gOKq (b o) P := by
  cases v with
  | null => exact Or.inl ⟨rfl, h⟩
  | ref o => exact Or.inr ⟨o, rfl, h⟩
  | _ => exact h.elim
def gRN (tbl : List (Nat × gStp)) : Nat → Nat → gLoc → List Value → gMem → gRes
  | 0, pc, L, S, M => some (pc, L, S, M)
  | k + 1, pc, L, S, M => match gAt tbl pc L S M with
    | some (pc', L', S', M') => gRN tbl k pc' L' S' M'
    | none => none
theorem go_rn {G : gG} {Y : gY} {d : Nat} {Z : Option Value → gMem → Prop} {tbl : List (Nat × gStp)} (k : Nat) {pc : Nat} {L : gLoc} {S : List Value} {M : gMem} {pc' : Nat} {L' : gLoc} {S' : List Value} {M' : gMem} (ok : gOk Y tbl) (h : gRN tbl k pc L S M = some (pc', L', S', M')) (g : gGo G Y d Z pc' L' S' M') : gGo G Y d Z pc L S M := by
  induction k generalizing pc L S M with
  | zero => cases h; exact g
  | succ k ih =>
    unfold gRN at h
    generalize hx : gAt tbl pc L S M = x at h
    match x, h with
    | some (p1, L1, S1, M1), h => exact go_st ok hx (ih h)
    | none, h => cases h
def gLe : gLoc → gLoc → Prop
  | [], _ => True
  | none :: a, _ :: b => gLe a b
  | some u :: a, w :: b => w = some u ∧ gLe a b
  | _ :: _, [] => False
theorem gLe_at : ∀ {a b : gLoc}, gLe a b → ∀ (i : Nat) (v : Value), a[i]? = some (some v) → b[i]? = some (some v)
  | [], _, _, i, v, h => by simp at h
  | none :: a, w :: b, hl, 0, v, h => by simp at h
  | none :: a, w :: b, hl, i + 1, v, h => by simpa using gLe_at (a := a) (b := b) hl i v (by simpa using h)
  | some u :: a, w :: b, hl, 0, v, h => by
    have e : w = some u := hl.1
    rw [e]; exact h
  | some u :: a, w :: b, hl, i + 1, v, h => by simpa using gLe_at hl.2 i v (by simpa using h)
  | none :: _, [], hl, _, _, _ => hl.elim
  | some _ :: _, [], hl, _, _, _ => hl.elim
/-- some locals forgotten -/
theorem go_wk {G : gG} {Y : gY} {d : Nat} {Z : Option Value → gMem → Prop} {pc : Nat} {L : gLoc} {S : List Value} {M : gMem} {L' : gLoc} (k : gGo G Y d Z pc L' S M) (h : gLe L' L) : gGo G Y d Z pc L S M :=
  fun p l e s m args below meth c C hret hlk H locs ls hP hS hl => k p l e s m args below meth c C hret hlk H locs ls hP hS ⟨hl.1, hl.2.1, fun i v hi => hl.2.2 i v (gLe_at h i v hi)⟩
/-- two checks that hold -/
theorem go_cc {G : gG} {Y : gY} {d : Nat} {Z : Option Value → gMem → Prop} {tbl : List (Nat × gStp)} {pc : Nat} {L : gLoc} {S : List Value} {M : gMem} {P P2 : Prop} [inst : Decidable P] [inst2 : Decidable P2] {pc1 : Nat} {L1 : gLoc} {S1 : List Value} {M1 : gMem} (ok : gOk Y tbl) (h : gAt tbl pc L S M = ite P (ite P2 (some (pc1, L1, S1, M1)) none) none) (hp : P) (hp2 : P2) (ha : gGo G Y d Z pc1 L1 S1 M1) : gGo G Y d Z pc L S M :=
  go_r ok h (by rw [if_pos hp, if_pos hp2]; exact ha)
theorem gTa0 : ∀ o, o < 162 → gOb0 7 o = true → gOb0 0 (o + 10) = true := by decide +kernel
theorem gTa {t : Nat} (h : gOb 7 t = true) : gOb 0 (t + 10) = true := gOb_c (gTa0 t (gOb_sh h).2 (by rw [← gOb_eq]; exact h))
/-! by hand: the JDK's, and the two that call themselves -/
def fJ6_bitCount_0f7a4 (a0 : Int32) (M : gMem) : Option Int32 := some (gPop a0)
theorem SJ6_bitCount_0f7a4 {G : gG} (a0 : Int32) (M : gMem) {r : Int32} (h : fJ6_bitCount_0f7a4 a0 M = some r) : gRun G YJ6_bitCount_0f7a4 0 [.int a0] M (fun r' N' => r' = some (.int r) ∧ N' = M) := by
  cases h
  exact R_bitCount G M a0
def fJ13_compare_74951 (a0 : Int64) (a1 : Int64) (M : gMem) : Option Int32 := some (gCmp a0 a1)
theorem SJ13_compare_74951 {G : gG} (a0 : Int64) (a1 : Int64) (M : gMem) {r : Int32} (h : fJ13_compare_74951 a0 a1 M = some r) : gRun G YJ13_compare_74951 0 [.long a0, .long a1] M (fun r' N' => r' = some (.int r) ∧ N' = M) := by
  cases h
  exact R_compare G M a0 a1
def fJ0_length_8abf5 (a0 : Nat) (M : gMem) : Option Int32 := some (nI (gTn2 (a0 - 910)))
theorem SJ0_length_8abf5 {G : gG} (a0 : Nat) (M : gMem) (o_a0 : gStr a0 = true) {r : Int32} (h : fJ0_length_8abf5 a0 M = some r) : gRun G YJ0_length_8abf5 1 [.ref a0] M (fun r' N' => r' = some (.int r) ∧ N' = M) := by
  obtain ⟨i, hi, rfl⟩ := gStr_at o_a0
  unfold fJ0_length_8abf5 at h
  rw [Nat.add_sub_cancel_left] at h
  have e := Option.some.inj h
  subst e
  exact R_length G M i hi
def fJ0_charAt_5068e (a0 : Nat) (a1 : Int32) (M : gMem) : Option Int32 := if 0 ≤ a1.toInt ∧ a1.toInt < (gTn2 (a0 - 910) : Int) then some (gTc (a0 - 910) a1.toNatClampNeg) else none
theorem SJ0_charAt_5068e {G : gG} (a0 : Nat) (a1 : Int32) (M : gMem) (o_a0 : gStr a0 = true) {r : Int32} (h : fJ0_charAt_5068e a0 a1 M = some r) : gRun G YJ0_charAt_5068e 3 [.ref a0, .int a1] M (fun r' N' => r' = some (.int r) ∧ N' = M) := by
  obtain ⟨i, hi, rfl⟩ := gStr_at o_a0
  unfold fJ0_charAt_5068e at h
  rw [Nat.add_sub_cancel_left] at h
  split at h
  · next hc =>
    cases h
    have hn : ¬ a1 < 0 := by
      intro hlt
      have := Int32.lt_iff_toInt_lt.mp hlt
      have e0 : (0 : Int32).toInt = 0 := rfl
      omega
    obtain ⟨j, hj, rfl⟩ := nI_of hn
    rw [nI_toInt hj] at hc
    rw [nI_clamp hj]
    exact R_charAt G M i j hi (by omega)
  · cases h
def gTimes : Nat → Int32 → Option Int32
  | 0, _ => none
  | k + 1, n => if n < 2 then some 1 else gB0 (gTimes k (n - 1)) (fun r => some (n * r))
def fX9_times (a0 : Int32) (M : gMem) : Option Int32 := gTimes 10 a0
theorem gTimes_run {G : gG} (M : gMem) : ∀ (k : Nat) (n r : Int32), gTimes k n = some r → gRun G YX9_times k [.int n] M (fun r' N' => r' = some (.int r) ∧ N' = M)
  | 0, _, _, h => by cases h
  | k + 1, n, r, h => by
    have ih := gTimes_run (G := G) M k
    refine gRun_in (by decide +kernel) rfl (fun d hd => ?_)
    have hq := gq_of h
    unfold gTimes at hq
    refine go_rn 2 (pc' := 2) (L' := [some (.int n)]) (S' := [.int 2, .int n]) (M' := M) okX9_times rfl ?_
    refine go_br okX9_times rfl (fun hp => ?_) (fun hp => ?_)
    · have hx : ¬ n < 2 := Int32.not_lt.mpr hp
      have hq := gq_neg hx hq
      refine go_rn 4 (pc' := 13) (L' := [some (.int n)]) (S' := [.int (n - 1), .int n]) (M' := M) okX9_times rfl ?_
      obtain ⟨r1, e1, hq⟩ := gB0_ok hq
      refine go_call1 ocX9_times rfl rfl rfl rfl (ih (n - 1) r1 e1) (Nat.lt_of_lt_of_le (Nat.lt_succ_self k) hd) ?_
      refine go_rn 1 (pc' := 17) (L' := [some (.int n)]) (S' := [.int (n * r1)]) (M' := M) okX9_times rfl ?_
      exact go_iret (reX9_times _ (by decide)) rfl ⟨congrArg (fun z => some (Value.int z)) hq, rfl⟩
    · have hx : n < 2 := Int32.not_le.mp hp
      have hq := gq_pos hx hq
      refine go_rn 2 (pc' := 17) (L' := [some (.int n)]) (S' := [.int 1]) (M' := M) okX9_times rfl ?_
      exact go_iret (reX9_times _ (by decide)) rfl ⟨congrArg (fun z => some (Value.int z)) hq, rfl⟩
theorem SX9_times {G : gG} (a0 : Int32) (M : gMem) {r : Int32} (h : fX9_times a0 M = some r) : gRun G YX9_times 10 [.int a0] M (fun r' N' => r' = some (.int r) ∧ N' = M) := gTimes_run M 10 a0 r h
def gComm : Nat → Int32 → Int32 → Option Int32
  | 0, _, _ => none
  | k + 1, a, b => if b = 0 then (if 0 ≤ a then some a else some (-a)) else gComm k b (a - a / b * b)
def fX9_common (a0 : Int32) (a1 : Int32) (M : gMem) : Option Int32 := gComm 60 a0 a1
theorem gComm_run {G : gG} (M : gMem) : ∀ (k : Nat) (a b r : Int32), gComm k a b = some r → gRun G YX9_common k [.int a, .int b] M (fun r' N' => r' = some (.int r) ∧ N' = M)
  | 0, _, _, _, h => by cases h
  | k + 1, a, b, r, h => by
    have ih := gComm_run (G := G) M k
    refine gRun_in (by decide +kernel) rfl (fun d hd => ?_)
    have hq := gq_of h
    unfold gComm at hq
    refine go_rn 1 (pc' := 1) (L' := [some (.int a), some (.int b)]) (S' := [.int b]) (M' := M) okX9_common rfl ?_
    refine go_br okX9_common rfl (fun hp => ?_) (fun hp => ?_)
    · have hq := gq_pos hp hq
      refine go_rn 1 (pc' := 5) (L' := [some (.int a), some (.int b)]) (S' := [.int a]) (M' := M) okX9_common rfl ?_
      refine go_br okX9_common rfl (fun hp2 => ?_) (fun hp2 => ?_)
      · have hq := gq_pos hp2 hq
        refine go_rn 2 (pc' := 24) (L' := [some (.int a), some (.int b)]) (S' := [.int a]) (M' := M) okX9_common rfl ?_
        exact go_iret (reX9_common _ (by decide)) rfl ⟨congrArg (fun z => some (Value.int z)) hq, rfl⟩
      · have hq := gq_neg hp2 hq
        refine go_rn 3 (pc' := 24) (L' := [some (.int a), some (.int b)]) (S' := [.int (-a)]) (M' := M) okX9_common rfl ?_
        exact go_iret (reX9_common _ (by decide)) rfl ⟨congrArg (fun z => some (Value.int z)) hq, rfl⟩
    · have hq := gq_neg hp hq
      refine go_rn 3 (pc' := 20) (L' := [some (.int a), some (.int b)]) (S' := [.int b, .int a, .int b]) (M' := M) okX9_common rfl ?_
      refine go_nk okX9_common rfl hp ?_
      have e1 : gComm k b (a - a / b * b) = some r := by
        have hn : ¬ b = 0 := hp
        unfold gComm at h
        rwa [if_neg hn] at h
      refine go_call1 ocX9_common rfl rfl rfl rfl (ih b (a - a / b * b) r e1) (Nat.lt_of_lt_of_le (Nat.lt_succ_self k) hd) ?_
      exact go_iret (reX9_common _ (by decide)) rfl ⟨rfl, rfl⟩
theorem SX9_common {G : gG} (a0 : Int32) (a1 : Int32) (M : gMem) {r : Int32} (h : fX9_common a0 a1 M = some r) : gRun G YX9_common 60 [.int a0, .int a1] M (fun r' N' => r' = some (.int r) ∧ N' = M) := gComm_run M 60 a0 a1 r h
