/-! the fewest sets that all pass a door in, and the ways -/
def stP (c f : Option Nat × Int32) : Option Nat × Int32 := match f.1 with
  | none => c
  | some k => match c.1 with
    | none => (some (k + 1), (0 : Int32) + f.2)
    | some m => if k + 1 < m then (some (k + 1), (0 : Int32) + f.2) else if k + 1 = m then (some m, c.2 + f.2) else c
def lkP (s i : Nat) : Bool := !decide (nI i &&& (nI s &&& (-(nI s))) = 0) && decide (nI i &&& (nI s ^^^ (-1)) = 0)
def inS (ok : Nat → Bool) (T : Nat → Option Nat × Int32) (s : Nat) : Nat → Option Nat × Int32
  | 0 => (none, 0)
  | i + 1 => if (lkP s (i + 1) && ok (i + 1)) = true then stP (inS ok T s i) (T (s - (i + 1))) else inS ok T s i
theorem inS_s (ok : Nat → Bool) (T : Nat → Option Nat × Int32) (s i : Nat) : inS ok T s (i + 1) = if (lkP s (i + 1) && ok (i + 1)) = true then stP (inS ok T s i) (T (s - (i + 1))) else inS ok T s i := rfl
def tbP (ok : Nat → Bool) : Nat → Nat → Option Nat × Int32
  | 0 => fun _ => (some 0, 1)
  | n + 1 => fun s => if s = n + 1 then inS ok (tbP ok n) (n + 1) (n + 1) else tbP ok n s
theorem inS_le {ok : Nat → Bool} {T : Nat → Option Nat × Int32} {s : Nat} (hT : ∀ q f, (T q).1 = some f → f ≤ q) : ∀ i, i ≤ s → ∀ f, (inS ok T s i).1 = some f → f ≤ s := by
  intro i
  induction i with
  | zero => intro _ f h; cases h
  | succ i ih =>
    intro hi f h
    have ih := ih (by omega)
    rw [inS_s] at h
    by_cases c : (lkP s (i + 1) && ok (i + 1)) = true
    · rw [if_pos c] at h
      unfold stP at h
      cases hf : (T (s - (i + 1))).1 with
      | none => rw [hf] at h; exact ih f h
      | some k =>
        have hk := hT _ _ hf
        rw [hf] at h
        cases hc : (inS ok T s i).1 with
        | none => rw [hc] at h; cases h; omega
        | some m =>
          have hm := ih m hc
          rw [hc] at h
          have h : (if k + 1 < m then (some (k + 1), (0 : Int32) + (T (s - (i + 1))).2) else if k + 1 = m then (some m, (inS ok T s i).2 + (T (s - (i + 1))).2) else inS ok T s i).1 = some f := h
          split at h
          · cases h; omega
          · split at h
            · cases h; exact hm
            · exact ih f h
    · rw [if_neg c] at h; exact ih f h
theorem tbP_le (ok : Nat → Bool) : ∀ n s f, (tbP ok n s).1 = some f → f ≤ s := by
  intro n
  induction n with
  | zero => intro s f h; cases h; exact Nat.zero_le _
  | succ n ih =>
    intro s f h
    by_cases c : s = n + 1
    · subst c
      have h : (if n + 1 = n + 1 then inS ok (tbP ok n) (n + 1) (n + 1) else tbP ok n (n + 1)).1 = some f := h
      rw [if_pos rfl] at h
      exact inS_le ih _ (Nat.le_refl _) f h
    · have h : (if s = n + 1 then inS ok (tbP ok n) (n + 1) (n + 1) else tbP ok n s).1 = some f := h
      rw [if_neg c] at h
      exact ih s f h
theorem lk_sub : ∀ s, s < 64 → ∀ i, i < 64 → nI i &&& (nI s ^^^ (-1)) = 0 → nI s &&& (nI i ^^^ (-1)) = nI (s - i) ∧ i ≤ s := by decide +kernel
theorem ix62 {k : Nat} (h : k < 64) : gIx 1 62 (nI k) = true := gIx_k (n := 64) rfl (by decide) h (by omega)
theorem ix63 {k : Nat} (h : k < 64) : gIx 1 63 (nI k) = true := gIx_k (n := 64) rfl (by decide) h (by omega)
theorem ix159 {k : Nat} (h : k < 64) : gIx 1 159 (nI k) = true := gIx_k (n := 64) rfl (by decide) h (by omega)
theorem ix160 {k : Nat} (h : k < 64) : gIx 1 160 (nI k) = true := gIx_k (n := 64) rfl (by decide) h (by omega)
theorem gSI_o {M : gMem} {o j q k : Nat} {x : Int32} (h : q ≠ o) : (gSI M o j x).1 q k = M.1 q k := congrFun (gSI_ne h) k
theorem C_addParting {N : gMem} {s r : Nat} {c f : Option Nat × Int32} (hs : s < 64) (hr : r < 64) (hn : r ≠ s) (c1 : N.1 62 s = oV c.1) (c2 : N.1 63 s = c.2) (f1 : N.1 62 r = oV f.1) (f2 : N.1 63 r = f.2) (bf : ∀ k, f.1 = some k → k < 64) (bc : ∀ k, c.1 = some k → k < 65) : ∃ K, fX1_addParting (nI s) (nI r) N = some K ∧ K.1 62 s = oV (stP c f).1 ∧ K.1 63 s = (stP c f).2 ∧ (∀ k, k ≠ s → K.1 62 k = N.1 62 k ∧ K.1 63 k = N.1 63 k) ∧ Fr 62 64 N K := by
  unfold fX1_addParting fX1_addParting_0 stP
  rw [if_pos (ix62 hr), nI_clamp (by omega), f1]
  cases hf : f.1 with
  | none =>
    rw [if_pos (show oV none = -1 from rfl)]
    exact ⟨N, rfl, c1, c2, fun _ _ => ⟨rfl, rfl⟩, Fr.rf⟩
  | some k =>
    have hk := bf k hf
    have new : ∃ K, fX1_addParting_40 (nI s) (nI r) (nI (k + 1)) N = some K ∧ K.1 62 s = nI (k + 1) ∧ K.1 63 s = 0 + f.2 ∧ (∀ k, k ≠ s → K.1 62 k = N.1 62 k ∧ K.1 63 k = N.1 63 k) ∧ Fr 62 64 N K := by
      unfold fX1_addParting_40 fX1_addParting_53 fX1_addParting_54
      have e1 : (gSI (gSI N 62 s (nI (k + 1))) 63 s 0).1 62 s = nI (k + 1) := (gSI_o (by omega)).trans gSI_eq
      have e2 : (gSI (gSI N 62 s (nI (k + 1))) 63 s 0).1 63 s = 0 := gSI_eq
      have e3 : (gSI (gSI N 62 s (nI (k + 1))) 63 s 0).1 63 r = f.2 := (gSI_nj hn).trans ((gSI_o (by omega)).trans f2)
      rw [if_pos (ix62 hs), nI_clamp (by omega), if_pos (ix63 hs), if_pos (ix62 hs), e1, if_pos rfl, if_pos (ix63 hs), nI_clamp (by omega), if_pos (ix63 hr), if_pos (ix63 hs), e2, e3]
      refine ⟨_, rfl, (gSI_o (by omega)).trans e1, gSI_eq, fun j hj => ⟨?_, ?_⟩, ((Fr.si (by omega) (by omega)).tr (Fr.si (by omega) (by omega))).tr (Fr.si (by omega) (by omega))⟩
      · exact (gSI_o (by omega)).trans ((gSI_o (by omega)).trans (gSI_nj hj))
      · exact (gSI_nj hj).trans ((gSI_nj hj).trans (gSI_o (by omega)))
    rw [if_neg (show ¬ oV (some k) = -1 from nI_m1 k (by omega)), if_pos (ix62 hr), if_pos (ix62 hs), nI_clamp (by omega), c1]
    show ∃ K, (if oV c.1 = -1 then fX1_addParting_40 (nI s) (nI r) (nI k + 1) N else if gIx 1 62 (nI s) = true then if oV c.1 ≤ nI k + 1 then fX1_addParting_54 (nI s) (nI r) (nI k + 1) N else fX1_addParting_40 (nI s) (nI r) (nI k + 1) N else none) = _ ∧ _
    rw [nI_1]
    cases hc : c.1 with
    | none =>
      rw [if_pos (show oV none = -1 from rfl)]
      exact new
    | some m =>
      have hm := bc m hc
      rw [if_neg (show ¬ oV (some m) = -1 from nI_m1 m (by omega)), if_pos (ix62 hs)]
      show ∃ K, (if nI m ≤ nI (k + 1) then _ else _) = _ ∧ _
      by_cases g : k + 1 < m
      · rw [if_neg (nI_ge g (by omega))]
        simp only [g, if_true]
        exact new
      · rw [if_pos (nI_le (by omega) (by omega))]
        simp only [g, if_false]
        unfold fX1_addParting_54
        rw [if_pos (ix62 hs), nI_clamp (by omega), c1, hc]
        show ∃ K, (if nI (k + 1) = nI m then _ else _) = _ ∧ _
        by_cases e : k + 1 = m
        · rw [if_pos (by rw [e]), if_pos (ix63 hs), if_pos (ix63 hr), if_pos (ix63 hs), nI_clamp (by omega), c2, f2]
          simp only [e, if_true]
          refine ⟨_, rfl, (gSI_o (by omega)).trans (by rw [c1, hc]), gSI_eq, fun j hj => ⟨gSI_o (by omega), gSI_nj hj⟩, Fr.si (by omega) (by omega)⟩
        · rw [if_neg (fun x => e ((nI_eq (by omega) (by omega)).mp x))]
          simp only [e, if_false]
          exact ⟨N, rfl, by rw [c1], c2, fun _ _ => ⟨rfl, rfl⟩, Fr.rf⟩
/-- what the class has parted -/
def PT (M N : gMem) (t : Nat) (v : gCt) (d n : Nat) : Prop := (∀ k, k ≤ n → N.1 62 k = oV (tbP (fun s => thD v s d) n k).1 ∧ N.1 63 k = (tbP (fun s => thD v s d) n k).2) ∧ CT N t v ∧ KP M N
theorem C_part_in {M N : gMem} {t d n : Nat} {v : gCt} (h : PT M N t v d n) (hd : d < v 0 6) (hn : n + 1 < 64) : ∃ K, fX1_part_39 t (nI d) (nI (n + 1)) (0 : Int32) (nI (n + 1)) (gSI N 62 (n + 1) (-1)) = some (.inl (nI (n + 2), K)) ∧ PT M K t v d (n + 1) := by
  obtain ⟨h1, h2, h3⟩ := h
  have hv := h2.2.1
  have key : ∃ r, fX1_part_39 t (nI d) (nI (n + 1)) (0 : Int32) (nI (n + 1)) (gSI N 62 (n + 1) (-1)) = some r ∧ ∃ K, r = .inl (nI (n + 2), K) ∧ PT M K t v d (n + 1) := by
    unfold fX1_part_39 fX1_part_49h
    rw [if_pos (ix63 hn), nI_clamp (by omega)]
    have f0 : Fr 62 64 N (gSI (gSI N 62 (n + 1) (-1)) 63 (n + 1) 0) := (Fr.si (by omega) (by omega)).tr (Fr.si (by omega) (by omega))
    refine gLp_inv (fun i (s : Int32 × gMem) => s.1 = nI (i + 1) ∧ (∀ k, k ≤ n → s.2.1 62 k = oV (tbP (fun s => thD v s d) n k).1 ∧ s.2.1 63 k = (tbP (fun s => thD v s d) n k).2) ∧ s.2.1 62 (n + 1) = oV (inS (fun s => thD v s d) (tbP (fun s => thD v s d) n) (n + 1) i).1 ∧ s.2.1 63 (n + 1) = (inS (fun s => thD v s d) (tbP (fun s => thD v s d) n) (n + 1) i).2 ∧ Fr 62 64 N s.2) (n + 1) (fun (r : Sum (Int32 × gMem) gMem) => ∃ K, r = .inl (nI (n + 2), K) ∧ PT M K t v d (n + 1)) (by omega) (fun i s hi hI => ?_) (fun s hI => ?_) _ ⟨rfl, fun k hk => ?_, ?_, gSI_eq, f0⟩
    · obtain ⟨i', N1⟩ := s
      obtain ⟨g1, g2, g3, g4, g5⟩ := hI
      have g1 : i' = nI (i + 1) := g1
      subst g1
      have g2 : ∀ k, k ≤ n → N1.1 62 k = oV (tbP (fun s => thD v s d) n k).1 ∧ N1.1 63 k = (tbP (fun s => thD v s d) n k).2 := g2
      have g3 : N1.1 62 (n + 1) = oV (inS (fun s => thD v s d) (tbP (fun s => thD v s d) n) (n + 1) i).1 := g3
      have g4 : N1.1 63 (n + 1) = (inS (fun s => thD v s d) (tbP (fun s => thD v s d) n) (n + 1) i).2 := g4
      have g5 : Fr 62 64 N N1 := g5
      have hC := h2.kp (g5.kp (by omega) (by omega))
      refine Or.inl ?_
      show ∃ s', fX1_part_49 t (nI d) (nI (n + 1)) (nI (n + 1) &&& (-(nI (n + 1)))) (nI (i + 1)) N1 = _ ∧ _
      have skip : (lkP (n + 1) (i + 1) && thD v (i + 1) d) = false → ∃ s', (some (Sum.inl (nI (i + 1) + 1, N1)) : Option (Sum (Int32 × gMem) (Sum (Int32 × gMem) gMem))) = some (Sum.inl s') ∧ (s'.1 = nI (i + 1 + 1) ∧ (∀ k, k ≤ n → s'.2.1 62 k = oV (tbP (fun s => thD v s d) n k).1 ∧ s'.2.1 63 k = (tbP (fun s => thD v s d) n k).2) ∧ s'.2.1 62 (n + 1) = oV (inS (fun s => thD v s d) (tbP (fun s => thD v s d) n) (n + 1) (i + 1)).1 ∧ s'.2.1 63 (n + 1) = (inS (fun s => thD v s d) (tbP (fun s => thD v s d) n) (n + 1) (i + 1)).2 ∧ Fr 62 64 N s'.2) := by
        intro hc
        rw [inS_s, if_neg (by rw [hc]; simp), nI_1]
        exact ⟨_, rfl, rfl, g2, g3, g4, g5⟩
      unfold fX1_part_49 fX1_part_76 fX1_part_77
      rw [if_neg (nI_nlt (by omega) (by omega))]
      by_cases a : nI (i + 1) &&& (nI (n + 1) &&& (-(nI (n + 1)))) = 0
      · rw [if_pos a, if_pos rfl]
        exact skip (by unfold lkP; rw [decide_eq_true a]; rfl)
      · rw [if_neg a]
        by_cases b : nI (i + 1) &&& (nI (n + 1) ^^^ (-1)) = 0
        · obtain ⟨b1', b2'⟩ := lk_sub (n + 1) hn (i + 1) (by omega) b
          have hlk : lkP (n + 1) (i + 1) = true := by unfold lkP; rw [decide_eq_false a, decide_eq_true b]; rfl
          rw [if_pos b, if_neg (by decide), C_fits (gTn_of hC.1.2) hv hC.2.2.1 (by omega) hd, gB0_some, ite_bI]
          cases hth : thD v (i + 1) d
          · exact skip (by rw [hth, Bool.and_false])
          · simp only [if_true]
            rw [b1']
            obtain ⟨p1, p2⟩ := g2 (n + 1 - (i + 1)) (by omega)
            obtain ⟨K, k1, k2, k3, k4, k5⟩ := C_addParting (s := n + 1) (r := n + 1 - (i + 1)) hn (by omega) (by omega) g3 g4 p1 p2 (fun k hk => by have := tbP_le _ _ _ _ hk; omega) (fun k hk => by have := inS_le (tbP_le _ n) i (by omega) k hk; omega)
            rw [k1, gB0_some, nI_1, inS_s, if_pos (by rw [hlk, hth]; rfl)]
            exact ⟨_, rfl, rfl, fun k hk => by rw [(k4 k (by omega)).1, (k4 k (by omega)).2]; exact g2 k hk, k2, k3, g5.tr k5⟩
        · rw [if_neg b, if_pos rfl]
          exact skip (by unfold lkP; rw [decide_eq_false b, Bool.and_false]; rfl)
    · obtain ⟨i', N1⟩ := s
      obtain ⟨g1, g2, g3, g4, g5⟩ := hI
      have g1 : i' = nI (n + 1 + 1) := g1
      subst g1
      have g2 : ∀ k, k ≤ n → N1.1 62 k = oV (tbP (fun s => thD v s d) n k).1 ∧ N1.1 63 k = (tbP (fun s => thD v s d) n k).2 := g2
      have g3 : N1.1 62 (n + 1) = oV (inS (fun s => thD v s d) (tbP (fun s => thD v s d) n) (n + 1) (n + 1)).1 := g3
      have g4 : N1.1 63 (n + 1) = (inS (fun s => thD v s d) (tbP (fun s => thD v s d) n) (n + 1) (n + 1)).2 := g4
      have g5 : Fr 62 64 N N1 := g5
      have kk := g5.kp (by omega) (by omega)
      show ∃ r, fX1_part_49 t (nI d) (nI (n + 1)) (nI (n + 1) &&& (-(nI (n + 1)))) (nI (n + 1 + 1)) N1 = _ ∧ _
      unfold fX1_part_49
      rw [if_pos (nI_lt (by omega) (by omega)), nI_1]
      refine ⟨_, rfl, N1, rfl, fun k hk => ?_, h2.kp kk, h3.tr kk⟩
      by_cases c : k = n + 1
      · subst c
        show _ = oV (if n + 1 = n + 1 then _ else tbP (fun s => thD v s d) n (n + 1)).1 ∧ _ = (if n + 1 = n + 1 then _ else tbP (fun s => thD v s d) n (n + 1)).2
        rw [if_pos rfl]
        exact ⟨g3, g4⟩
      · show _ = oV (if k = n + 1 then _ else tbP (fun s => thD v s d) n k).1 ∧ _ = (if k = n + 1 then _ else tbP (fun s => thD v s d) n k).2
        rw [if_neg c]
        exact g2 k (by omega)
    · show (gSI (gSI N 62 (n + 1) (-1)) 63 (n + 1) 0).1 62 k = _ ∧ (gSI (gSI N 62 (n + 1) (-1)) 63 (n + 1) 0).1 63 k = _
      rw [gSI_ne (show (62 : Nat) ≠ 63 by omega), gSI_nj (show k ≠ n + 1 by omega), gSI_nj (show k ≠ n + 1 by omega), gSI_ne (show (63 : Nat) ≠ 62 by omega)]
      exact h1 k hk
    · show (gSI (gSI N 62 (n + 1) (-1)) 63 (n + 1) 0).1 62 (n + 1) = _
      rw [gSI_ne (show (62 : Nat) ≠ 63 by omega), gSI_eq]; rfl
  obtain ⟨r, r1, K, r2, r3⟩ := key
  exact ⟨K, by rw [r1, r2], r3⟩
theorem C_part {M : gMem} {t d : Nat} {v : gCt} (h : CT M t v) (hd : d < v 0 6) : ∃ N, fX1_part t (nI d) M = some N ∧ PT M N t v d (2 ^ v 0 4 - 1) := by
  have hv0 := h.2.1.1
  have hpw := pow_le hv0.2.2.2.2.1
  have hp1 : 1 ≤ 2 ^ v 0 4 := Nat.one_le_two_pow
  unfold fX1_part fX1_part_0 fX1_part_13 fX1_part_16h
  rw [show gIx 1 62 (0 : Int32) = true from ix62 (k := 0) (by omega), if_pos rfl, show gIx 1 63 (0 : Int32) = true from ix63 (k := 0) (by omega), if_pos rfl, show Int32.toNatClampNeg (0 : Int32) = 0 from rfl]
  have k0 : Fr 62 64 M (gSI (gSI M 62 0 0) 63 0 1) := (Fr.si (by omega) (by omega)).tr (Fr.si (by omega) (by omega))
  have kk := k0.kp (by omega) (by omega)
  refine gLp_inv (fun i (s : Int32 × gMem) => s.1 = nI (i + 1) ∧ PT M s.2 t v d i) (2 ^ v 0 4 - 1) (fun (N : gMem) => PT M N t v d (2 ^ v 0 4 - 1)) (by omega) (fun i s hi hI => ?_) (fun s hI => ?_) _ ⟨rfl, fun k hk => ?_, h.kp kk, kk⟩
  · obtain ⟨i', N⟩ := s
    obtain ⟨g1, hI⟩ := hI
    have g1 : i' = nI (i + 1) := g1
    subst g1
    have hI : PT M N t v d i := hI
    obtain ⟨K, k1, k2⟩ := C_part_in hI hd (show i + 1 < 64 by omega)
    refine Or.inl ?_
    show ∃ s', fX1_part_16 t (nI d) (nI (i + 1)) N = _ ∧ _
    unfold fX1_part_16
    rw [show N.1 t 5 = nI (v 0 4) from hI.2.1.2.2.1.1.2.2.2.2.2.1, sh_pow _ (by omega), if_neg (nI_ge (by omega) (by omega)), if_pos (ix62 (by omega)), nI_clamp (by omega), k1]
    exact ⟨_, rfl, rfl, k2⟩
  · obtain ⟨i', N⟩ := s
    obtain ⟨g1, hI⟩ := hI
    have g1 : i' = nI (2 ^ v 0 4 - 1 + 1) := g1
    subst g1
    have hI : PT M N t v d (2 ^ v 0 4 - 1) := hI
    show ∃ r, fX1_part_16 t (nI d) (nI (2 ^ v 0 4 - 1 + 1)) N = _ ∧ _
    unfold fX1_part_16
    rw [show N.1 t 5 = nI (v 0 4) from hI.2.1.2.2.1.1.2.2.2.2.2.1, sh_pow _ (by omega), if_pos (nI_le (by omega) (by omega))]
    exact ⟨_, rfl, hI⟩
  · have : k = 0 := by omega
    subst this
    exact ⟨(gSI_o (by omega)).trans gSI_eq, gSI_eq⟩
