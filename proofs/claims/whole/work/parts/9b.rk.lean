/-! The text: all lines by the reference, and city. -/
theorem ix147 {k : Nat} (h : k < 5) : gIx 1 147 (nI k) = true := gIx_k rfl (by decide) h (by omega)
theorem FrR.s147 {M : gMem} {x : Int32} : FrR M (gSI M 147 4 x) := ⟨fun q a b => gSI_ne (by omega), fun q a b j hj => by
    by_cases c : q = 147
    · subst c
      have hj : j < 4 := hj
      exact gSI_nj (by omega)
    · exact gSI_o c, gSI_o (by omega), G2.si (by omega)⟩
theorem R4_same {M N : gMem} {v : gCt} (h : R4 M v) (e : ∀ q, 147 ≤ q → q < 153 → N.1 q = M.1 q) : R4 N v := RA_same h (fun q a b => sl4_ne (e q a b))
theorem M_120 {N : gMem} {g : Nat → Nat} {n : Nat} {s : gPs} {w : gCt} (h : MSt N g n s) (hr : ∀ q, s = .inr q → R4 N w) : ∃ K, fX9_city_120 N = some (.inl K) ∧ MSt K g n s ∧ (∀ q, s = .inr q → R4 K (vL w)) ∧ FrR N K := by
  unfold fX9_city_120
  rw [show (4 : Int32) = nI 4 from rfl, if_pos (ix147 (by omega)), if_pos (ix147 (by omega)), nI_clamp (by omega)]
  refine ⟨_, rfl, h.o (by omega) (by omega), fun q hq => ?_, FrR.s147⟩
  have r := hr q hq
  refine RA_L r ?_ (fun k a b => sl4_ne (gSI_ne (by omega)))
  show (gSI N 147 4 (N.1 147 4 + 1)).1 147 4 = _
  rw [gSI_eq, show N.1 147 4 = nI (w 0 9) from r.1.1, nI_1]
theorem M_tail {X : gMem} {g : Nat → Nat} {n : Nat} {s : gPs} {w : gCt} (h : MSt X g n s) (hr : ∀ q, s = .inr q → R4 X w) : ∃ N, fX9_city_109 X = some (.inl N) ∧ MSt N g n (sB s (rdS g n)) ∧ (∀ q, sB s (rdS g n) = .inr q → R4 N (vL w)) ∧ FrR X N := by
  unfold fX9_city_109 fX9_isGood fX9_isGood_0
  match s, h, hr with
  | .inr p, h, hr =>
    rw [if_pos (show X.1 141 12 = 0 from h.2.2.2.1), gB0_some, if_neg (show ¬ (1 : Int32) = 0 by decide)]
    obtain ⟨A, a1, a2, a3⟩ := M_ends h
    have rA : R4 A w := R4_same (hr p rfl) (fun q a b => a3.1 q (by omega))
    obtain ⟨K, k1, k2, k3, k4⟩ := M_120 (w := w) a2 (fun _ _ => rA)
    rw [a1, gB0_some, k1]
    exact ⟨K, rfl, k2, k3, a3.fr.tr k4⟩
  | .inl e, h, hr =>
    have h' := h
    obtain ⟨h1, h4, h5, h6⟩ := h'
    rw [h5, if_neg (nI_ne0 (by omega) (by omega)), gB0_some, if_pos rfl]
    obtain ⟨K, k1, k2, k3, k4⟩ := M_120 (w := w) h (fun q hq => by cases hq)
    exact ⟨K, k1, k2, fun q hq => (by cases hq), k4⟩
theorem M_step {M : gMem} {g : Nat → Nat} {n p : Nat} {v : gCt} (h : MSt M g n (.inr p)) (hV : VI v) (hr : R4 M v) (hk : tK g n p ≠ 0) : ∃ N, fX9_city_13 M = some (.inl N) ∧ MSt N g n (lnS g n v p) ∧ (∀ q, lnS g n v p = .inr q → R4 N (lnW g n v p)) ∧ FrR M N := by
  have hv := hV.1
  have hv0 := hv.1
  have kl := tK_le g n p
  have h' := h
  obtain ⟨h1, h2, ⟨k9, k7, k8, k10, k11⟩, h4, h5⟩ := h'
  have r0 : M.1 147 4 = nI (v 0 9) := hr.1.1
  unfold fX9_city_13 fX9_isGood fX9_isGood_0
  rw [h4, if_pos rfl, gB0_some, if_neg (show ¬ (1 : Int32) = 0 by decide), k8, if_neg (nI_ne0 (by omega) (by omega)), if_pos (show gIx 1 147 (4 : Int32) = true from ix147 (k := 4) (by omega)), show Int32.toNatClampNeg (4 : Int32) = 4 from rfl, r0]
  have go : ∀ {A : gMem} {s : gPs} {w : gCt}, MSt A g n s → (∀ q, s = .inr q → R4 A w) → FrR M A → sB s (rdS g n) = lnS g n v p → vL w = lnW g n v p → ∃ N, fX9_city_109 A = some (.inl N) ∧ MSt N g n (lnS g n v p) ∧ (∀ q, lnS g n v p = .inr q → R4 N (lnW g n v p)) ∧ FrR M N := by
    intro A s w a b c d e
    obtain ⟨N, n1, n2, n3, n4⟩ := M_tail a b
    rw [← d, ← e]
    exact ⟨N, n1, n2, n3, c.tr n4⟩
  by_cases c9 : v 0 9 = 0
  · rw [c9, if_pos (show nI 0 = (0 : Int32) from rfl)]
    obtain ⟨A, a1, a2, a3, a4, a5, a6⟩ := M_head fX9_city_109 h
    rw [a1]
    refine go (w := vH v (pv g n (hd1 g n (.inr p))) (pv g n (hd2 g n (.inr p))) (pv g n (hd3 g n (.inr p))) (pv g n (hd4 g n (.inr p)))) a2 (fun q hq => ?_) (FrR_of (a := 149) (fun j hj => a4 j (by omega)) (fun j hj => by rw [a5 149 (by omega) (by omega)]) (by omega) (fun q x y z => a5 q x y) a6) ?_ ?_
    · refine RA_H hr (a3 q hq) (fun j x y => ?_) (fun q x y z => sl4_ne (a5 q (by omega) z))
      show A.1 148 (36 + j) = M.1 148 (36 + j)
      exact a4 _ (by omega)
    · unfold lnS; rw [if_pos c9]
    · unfold lnW; rw [if_pos c9]
  · rw [if_neg (nI_ne0 (by omega) (by omega))]
    obtain ⟨A, a1, a2, a3, a4⟩ := M_lineHere h hv hr
    rw [a1, gB0_some]
    refine go (w := lnV g n v p) a2 a3 a4 ?_ ?_
    · unfold lnS; rw [if_neg c9]
    · unfold lnW; rw [if_neg c9]
def fltK (s : gPs) : Int32 := match s with
  | .inl e => nI e.1
  | .inr _ => 0
def fltP (s : gPs) : Int32 := match s with
  | .inl e => nI e.2
  | .inr _ => -1
theorem M_isOver {N : gMem} : fX9_isOver N = some (gSI (gSI (gSI N 141 6 0) 141 14 (N.1 141 12)) 141 15 (if N.1 141 12 = 0 then -1 else N.1 141 13)) := by
  unfold fX9_isOver fX9_isOver_0 fX9_isOver_7 fX9_isOver_15 fX9_isOver_29
  have e1 : (gSI N 141 6 0).1 141 12 = N.1 141 12 := gSI_nj (by omega)
  have e2 : ∀ x, (gSI (gSI N 141 6 0) 141 14 x).1 141 12 = N.1 141 12 := fun x => (gSI_nj (by omega)).trans e1
  have e3 : ∀ x, (gSI (gSI N 141 6 0) 141 14 x).1 141 13 = N.1 141 13 := fun x => (gSI_nj (by omega)).trans (gSI_nj (by omega))
  rw [e1, e2, e3]
  by_cases c : N.1 141 12 = 0
  · rw [if_pos c, if_pos c]
  · rw [if_neg c, if_neg c]
/-- behind all lines -/
def OVR (N K : gMem) (s : gPs) (w : gCt) (r : Int32) : Prop := (K.1 141 6 = 0 ∧ K.1 141 14 = fltK s ∧ K.1 141 15 = fltP s) ∧ (∀ q, q ≠ 141 → q < 147 ∨ 153 ≤ q → q ≠ 153 → K.1 q = N.1 q) ∧ (∀ q, 147 ≤ q → q < 154 → ∀ j, mkO q ≤ j → j < mkO q * 4 → K.1 q j = N.1 q j) ∧ (∀ q, q ≠ 141 → K.2.1 q = N.2.1 q) ∧ K.2.2 = N.2.2 ∧ (∀ e, s = .inl e → r = -4 ∧ ∀ q, 147 ≤ q → q < 154 → ∀ j, j < mkO q → K.1 q j = N.1 q j) ∧ (∀ q, s = .inr q → r = nI (w 0 9) ∧ RA K w ∧ RC K w)
theorem mk_4 (q : Nat) : mkO q ≤ mkO q * 4 := Nat.le_mul_of_pos_right _ (by omega)
theorem OVR.of {M N K : gMem} {s : gPs} {w : gCt} {r : Int32} (f : FrR M N) (h : OVR N K s w r) : OVR M K s w r := by
  obtain ⟨h1, h2, h3, h4, h5, h6, h7⟩ := h
  have e : ∀ q, 147 ≤ q → q < 154 → ∀ j, j < mkO q * 4 → N.1 q j = M.1 q j := fun q a b j hj => by
    by_cases c : q < 153
    · exact f.2.1 q a c j hj
    · rw [f.1 q (by omega) (by omega)]
  refine ⟨h1, fun q a b c => (h2 q a b c).trans (f.1 q a b), fun q a b j c d => (h3 q a b j c d).trans (e q a b j d), fun q a => (h4 q a).trans (f.2.2.2.2.1 q a), h5.trans f.2.2.2.2.2, fun x hx => ?_, h7⟩
  obtain ⟨a, b⟩ := h6 x hx
  exact ⟨a, fun q c d j hj => (b q c d j hj).trans (e q c d j (Nat.lt_of_lt_of_le hj (mk_4 q)))⟩
theorem M_over {N : gMem} {g : Nat → Nat} {n : Nat} {s : gPs} {w : gCt} (h : MSt N g n s) (hr : ∀ q, s = .inr q → R4 N w ∧ gWF w ∧ w 0 8 = 0) (h44 : N.1 148 44 = 0) : ∃ r K, fX9_city_133 N = some (r, K) ∧ OVR N K s w r := by
  unfold fX9_city_133
  rw [M_isOver, gB0_some]
  obtain ⟨P, hP⟩ : ∃ P, P = gSI (gSI (gSI N 141 6 0) 141 14 (N.1 141 12)) 141 15 (if N.1 141 12 = 0 then -1 else N.1 141 13) := ⟨_, rfl⟩
  rw [← hP]
  have pq : ∀ q, q ≠ 141 → P.1 q = N.1 q := fun q a => by rw [hP, gSI_ne a, gSI_ne a, gSI_ne a]
  have p6 : P.1 141 6 = 0 := by rw [hP, gSI_nj (by omega), gSI_nj (by omega), gSI_eq]
  have p12 : P.1 141 12 = N.1 141 12 := by rw [hP, gSI_nj (by omega), gSI_nj (by omega), gSI_nj (by omega)]
  have p14 : P.1 141 14 = N.1 141 12 := by rw [hP, gSI_nj (by omega), gSI_eq]
  have p15 : P.1 141 15 = if N.1 141 12 = 0 then -1 else N.1 141 13 := by rw [hP, gSI_eq]
  have p2 : P.2 = N.2 := by rw [hP]; rfl
  match s, h, hr with
  | .inr p, h, hr =>
    obtain ⟨r1, r2, r3⟩ := hr p rfl
    have h12 : N.1 141 12 = 0 := h.2.2.2.1
    rw [h12] at p12 p14 p15
    rw [if_pos rfl] at p15
    rw [p12, if_pos rfl]
    have rk : RAk P 4 w := ⟨R4_same r1 (fun q a b => pq q (by omega)), by
      refine ⟨?_, fun i hi => absurd hi (by omega)⟩
      show P.1 148 44 = nI (w 0 8)
      rw [pq 148 (by omega), h44, r3]; rfl⟩
    obtain ⟨K, k1, k2, k3, k4, k5⟩ := M_copyCity (M := P) (a := 4) (b := 0) (by omega) (by omega) (by omega)
    have rK := (RAk_0 K w).mp (RAk_cp (a := 4) (b := 0) r2 (by omega) rk (fun q a b k hk => k2 q a b k hk))
    have e141 : K.1 141 = P.1 141 := k4 141 (by omega)
    rw [show fX9_copyCity (4 : Int32) (0 : Int32) P = some K from k1, gB0_some, if_pos (show gIx 1 147 (0 : Int32) = true from ix147 (k := 0) (by omega)), show Int32.toNatClampNeg (0 : Int32) = 0 from rfl, rK.1.1.1]
    refine ⟨_, K, rfl, ⟨by rw [e141]; exact p6, by rw [e141]; exact p14, by rw [e141]; exact p15⟩, fun q a b c => (k4 q (by omega)).trans (pq q a), fun q a b j c d => ?_, fun q _ => by rw [k5, p2], by rw [k5, p2], fun e he => (by cases he), fun q _ => ⟨rfl, rK.1, rK.2⟩⟩
    rw [k3 q a b j (by omega), pq q (by omega)]
  | .inl e, h, hr =>
    have h' := h
    obtain ⟨h1, h4, h5, h6⟩ := h'
    have n0 : ¬ nI e.1 = 0 := nI_ne0 (by omega) (by omega)
    rw [h5] at p12 p14 p15
    rw [if_neg n0, h6] at p15
    rw [p12, if_neg n0]
    exact ⟨_, P, rfl, ⟨p6, p14, p15⟩, fun q a _ _ => pq q a, fun q a b j _ _ => by rw [pq q (by omega)], fun q _ => by rw [p2], by rw [p2], fun _ _ => ⟨rfl, fun q a b j _ => by rw [pq q (by omega)]⟩, fun q hq => (by cases hq)⟩
theorem pv_b {g : Nat → Nat} {n lo hi q : Nat} {s : gPs} (h : sB s (rdN g n lo hi) = .inr q) : lo ≤ pv g n s ∧ pv g n s < hi := by
  obtain ⟨p, rfl, hp⟩ := sB_inr h
  obtain ⟨_, b, c, _⟩ := rdN_ok hp
  exact ⟨b, c⟩
theorem lnU_ok {g : Nat → Nat} {n : Nat} {v : gCt} {p q : Nat} (hV : VI v) (h : lnT g n v p = .inr q) : gWF (lnU g n v p) ∧ 1 ≤ lnU g n v p 0 0 := by
  obtain ⟨hv, h8, h0, hy⟩ := hV
  unfold lnT at h
  unfold lnU
  by_cases c9 : v 0 9 = 0
  · rw [if_pos c9] at h
    rw [if_pos c9]
    have k4 := pv_b h
    obtain ⟨p4, hp4⟩ := sB_n h
    obtain ⟨p4', hp4'⟩ := sB_n hp4
    have k3 := pv_b hp4'
    obtain ⟨p3, hp3⟩ := sB_n hp4'
    obtain ⟨p3', hp3'⟩ := sB_n hp3
    have k2 := pv_b hp3'
    obtain ⟨p2, hp2⟩ := sB_n hp3'
    obtain ⟨p2', hp2'⟩ := sB_n hp2
    have k1 := pv_b hp2'
    exact ⟨WF_H hv h8 (Nat.le_of_lt_succ k1.2) (Nat.le_of_lt_succ k2.2) (Nat.le_of_lt_succ k3.2) (Nat.le_of_lt_succ k4.2), k1.1⟩
  · rw [if_neg c9] at h
    rw [if_neg c9]
    have y1 := hy c9
    unfold lnB at h
    unfold lnV
    cases b5 : isW g n 5 p
    · rw [b5, if_neg (show ¬ false = true by decide)] at h
      rw [if_neg (show ¬ false = true by decide)]
      cases b9 : isW g n 9 p
      · rw [b9, if_neg (show ¬ false = true by decide)] at h
        rw [if_neg (show ¬ false = true by decide)]
        cases b11 : isW g n 11 p
        · rw [b11, if_neg (show ¬ false = true by decide)] at h
          rw [if_neg (show ¬ false = true by decide)]
          cases b12 : isW g n 12 p
          · rw [b12, if_neg (show ¬ false = true by decide)] at h
            cases h
          · rw [b12, if_pos rfl] at h
            by_cases c : v 0 7 < 5
            · rw [if_pos c] at h
              have k2 := pv_b h
              obtain ⟨p2, hp2⟩ := sB_n h
              obtain ⟨p2', hp2'⟩ := sB_n hp2
              have k1 := pv_b hp2'
              exact ⟨WF_C hv h8 c k1.2 (Nat.le_of_lt_succ k2.2), y1⟩
            · rw [if_neg c] at h; cases h
        · rw [b11, if_pos rfl] at h
          rw [if_pos rfl]
          by_cases c : v 0 6 < 5
          · rw [if_pos c] at h
            have k1 := pv_b h
            exact ⟨WF_D hv h8 c ⟨k1.1, Nat.le_of_lt_succ k1.2⟩, y1⟩
          · rw [if_neg c] at h; cases h
      · rw [b9, if_pos rfl] at h
        rw [if_pos rfl]
        by_cases c : v 0 5 < 7
        · rw [if_pos c] at h
          have k3 := pv_b h
          obtain ⟨p3, hp3⟩ := sB_n h
          obtain ⟨p3', hp3'⟩ := sB_n hp3
          have k2 := pv_b hp3'
          obtain ⟨p0, hp0, hok⟩ := sB_inr hp3'
          obtain ⟨p1, hp1, hd1⟩ := sB_inr (show sB (sB (dr1 g n p) (rdN g n 0 (v 0 4))) (dfS g n (pv g n (dr1 g n p))) = .inr p0 from hp0)
          have k1 := pv_b hp1
          have hne : pv g n (dr1 g n p) ≠ pv g n (jn2 g n (v 0 4) p) := by
            rw [show jn2 g n (v 0 4) p = .inr p0 from hp0]
            unfold dfS at hd1
            split at hd1
            · cases hd1
            · next hno =>
              cases hd1
              obtain ⟨x1, -, -, -⟩ := rdN_ok hok
              unfold okN at x1
              simp only [Bool.and_eq_true, decide_eq_true_eq] at x1
              intro heq
              exact hno ⟨x1.1, heq.symm⟩
          exact ⟨WF_J hv h8 c k1.2 k2.2 hne ⟨k3.1, Nat.le_of_lt_succ k3.2⟩, y1⟩
        · rw [if_neg c] at h; cases h
    · rw [b5, if_pos rfl] at h
      rw [if_pos rfl]
      by_cases c : v 0 4 < 6
      · rw [if_pos c] at h
        have k3 := pv_b h
        obtain ⟨p3, hp3⟩ := sB_n h
        obtain ⟨p3', hp3'⟩ := sB_n hp3
        have k2 := pv_b hp3'
        obtain ⟨p2, hp2⟩ := sB_n hp3'
        obtain ⟨p2', hp2'⟩ := sB_n hp2
        have k1 := pv_b hp2'
        exact ⟨WF_P hv h8 c ⟨k1.1, Nat.le_of_lt_succ k1.2⟩ (Nat.le_of_lt_succ k2.2) (Nat.le_of_lt_succ k3.2), y1⟩
      · rw [if_neg c] at h; cases h
theorem lnW_VI {g : Nat → Nat} {n : Nat} {v : gCt} {p q : Nat} (hV : VI v) (h9 : v 0 9 < 800) (h : lnS g n v p = .inr q) : VI (lnW g n v p) := by
  obtain ⟨r, hr, -⟩ := sB_inr h
  obtain ⟨a, b⟩ := lnU_ok hV hr
  exact VI_L a (lnU_8.1.trans hV.2.1) (Nat.lt_of_le_of_lt (Nat.le_of_eq lnU_8.2) h9) b
theorem M_lines {M : gMem} {g : Nat → Nat} {n : Nat} (h : MSt M g n (.inr 0)) (hr : R4 M v00) (h44 : M.1 148 44 = 0) : ∃ r K, fX9_city_13h M = some (r, K) ∧ OVR M K (lnR g n n v00 0).1 (lnR g n n v00 0).2 r := by
  have n8 := h.1.1.2
  generalize hR : lnR g n n v00 0 = R
  have key := gLp_inv (f := fun s : gMem => fX9_city_13 s) (fun i (st : gMem) => FrR M st ∧ ((∃ e, MSt st g n (.inl e) ∧ R.1 = .inl e) ∨ ∃ p k v, MSt st g n (.inr p) ∧ (i ≤ p ∧ n - p ≤ k) ∧ R4 st v ∧ VI v ∧ v 0 9 = i ∧ lnR g n k v p = R)) 801 (fun r => OVR M r.2 R.1 R.2 r.1) (by omega) (fun i N hi hI => ?_) (fun N hI => ?_) M ⟨FrR.rf, Or.inr ⟨0, n, v00, h, ⟨by omega, by omega⟩, hr, VI_0, rfl, hR⟩⟩
  · obtain ⟨r, r1, r2⟩ := key
    exact ⟨r.1, r.2, r1, r2⟩
  · obtain ⟨g2, g3⟩ := hI
    have e44 : N.1 148 44 = 0 := g2.2.2.1.trans h44
    show (∃ s', fX9_city_13 N = _ ∧ _) ∨ ∃ r, fX9_city_13 N = _ ∧ _
    rcases g3 with ⟨e, c1, c2⟩ | ⟨p, k, v, c1, ⟨c2, c3⟩, c4, c5, c6, c7⟩
    · obtain ⟨r, K, k1, k2⟩ := M_over (w := R.2) c1 (fun q hq => by cases hq) e44
      rw [← c2] at k2
      have c1' := c1
      obtain ⟨d1, d2, d3, d4⟩ := c1'
      unfold fX9_city_13 fX9_isGood fX9_isGood_0
      rw [d3, if_neg (nI_ne0 (by omega) (by omega)), gB0_some, if_pos rfl, k1, gEx_some]
      exact Or.inr ⟨_, rfl, k2.of g2⟩
    · have c1' := c1
      obtain ⟨d1, d2, ⟨k9, k7, k8, k10, k11⟩, d4, d5⟩ := c1'
      by_cases k0 : tK g n p = 0
      · have eR : R = (.inr p, v) := c7.symm.trans (lnR_0 k0)
        subst eR
        obtain ⟨r, K, k1, k2⟩ := M_over (w := v) c1 (fun q hq => ⟨c4, c5.1, c5.2.1⟩) e44
        unfold fX9_city_13 fX9_isGood fX9_isGood_0
        rw [d4, if_pos rfl, gB0_some, if_neg (show ¬ (1 : Int32) = 0 by decide), k8, k0, if_pos (show nI 0 = (0 : Int32) from rfl), k1, gEx_some]
        exact Or.inr ⟨_, rfl, k2.of g2⟩
      · have hs0 := tS_le (g := g) d2
        have hlt : tS g n p < n := by
          have := mt (tK_0 (g := g) d2).mpr k0
          omega
        obtain ⟨K, k1, k2, k3, k4'⟩ := M_step c1 c5 c4 k0
        rw [k1]
        obtain ⟨k', rfl⟩ : ∃ k', k = k' + 1 := ⟨k - 1, by omega⟩
        refine Or.inl ⟨_, rfl, g2.tr k4', ?_⟩
        generalize eS : lnS g n v p = S at k2 k3
        match S, k2 with
        | .inl e, k2 => exact Or.inl ⟨e, k2, by rw [← c7, lnR_e k0 eS]⟩
        | .inr q, k2 =>
          have lt := ln_lt d2 eS
          refine Or.inr ⟨q, k', lnW g n v p, k2, ⟨by omega, by omega⟩, k3 q rfl, lnW_VI c5 (by omega) eS, ?_, by rw [← c7, lnR_s k0 eS]⟩
          rw [lnW_eq]
          show lnU g n v p 0 9 + 1 = i + 1
          rw [lnU_8.2, c6]
  · obtain ⟨g2, g3⟩ := hI
    have e44 : N.1 148 44 = 0 := g2.2.2.1.trans h44
    show ∃ r, fX9_city_13 N = _ ∧ _
    rcases g3 with ⟨e, c1, c2⟩ | ⟨p, k, v, c1, ⟨c2, c3⟩, c4, c5, c6, c7⟩
    · obtain ⟨r, K, k1, k2⟩ := M_over (w := R.2) c1 (fun q hq => by cases hq) e44
      rw [← c2] at k2
      have c1' := c1
      obtain ⟨d1, d2, d3, d4⟩ := c1'
      unfold fX9_city_13 fX9_isGood fX9_isGood_0
      rw [d3, if_neg (nI_ne0 (by omega) (by omega)), gB0_some, if_pos rfl, k1, gEx_some]
      exact ⟨_, rfl, k2.of g2⟩
    · have c1 : MSt N g n (.inr p) := c1
      have := c1.2.1
      omega
/-! city -/
theorem M_clears {M : gMem} : ∃ N, fX9_clears M = some N ∧ N.1 147 4 = 0 ∧ (∀ k, k < 9 → N.1 148 (36 + k) = 0) ∧ (∀ j, j < 4 → N.1 147 j = M.1 147 j) ∧ (∀ j, j < 36 → N.1 148 j = M.1 148 j) ∧ (∀ q, q ≠ 147 → q ≠ 148 → N.1 q = M.1 q) ∧ N.2 = M.2 := by
  unfold fX9_clears fX9_clears_0 fX9_clears_9h
  rw [if_pos (show gIx 1 147 (4 : Int32) = true from ix147 (k := 4) (by omega)), show Int32.toNatClampNeg (4 : Int32) = 4 from rfl]
  refine gLp_inv (fun i (st : Int32 × gMem) => st.1 = nI i ∧ st.2.1 147 4 = 0 ∧ (∀ k, k < i → st.2.1 148 (36 + k) = 0) ∧ (∀ j, j < 4 → st.2.1 147 j = M.1 147 j) ∧ (∀ j, j < 36 → st.2.1 148 j = M.1 148 j) ∧ (∀ q, q ≠ 147 → q ≠ 148 → st.2.1 q = M.1 q) ∧ st.2.2 = M.2) 9 (fun (N : gMem) => N.1 147 4 = 0 ∧ (∀ k, k < 9 → N.1 148 (36 + k) = 0) ∧ (∀ j, j < 4 → N.1 147 j = M.1 147 j) ∧ (∀ j, j < 36 → N.1 148 j = M.1 148 j) ∧ (∀ q, q ≠ 147 → q ≠ 148 → N.1 q = M.1 q) ∧ N.2 = M.2) (by omega) (fun i st hi hI => ?_) (fun st hI => ?_) _ ⟨rfl, gSI_eq, fun k hk => absurd hk (Nat.not_lt_zero k), fun j hj => gSI_nj (by omega), fun j hj => gSI_o (by omega), fun q a b => gSI_ne a, rfl⟩
  · obtain ⟨i', N⟩ := st
    obtain ⟨g1, g2, g3, g4, g5, g6, g7⟩ := hI
    have g1 : i' = nI i := g1
    subst g1
    have g2 : N.1 147 4 = 0 := g2
    have g3 : ∀ k, k < i → N.1 148 (36 + k) = 0 := g3
    have g4 : ∀ j, j < 4 → N.1 147 j = M.1 147 j := g4
    have g5 : ∀ j, j < 36 → N.1 148 j = M.1 148 j := g5
    have g6 : ∀ q, q ≠ 147 → q ≠ 148 → N.1 q = M.1 q := g6
    refine Or.inl ?_
    show ∃ s', fX9_clears_9 (nI i) N = _ ∧ _
    unfold fX9_clears_9
    rw [if_neg (show ¬ (9 : Int32) ≤ nI i from nI_ge (b := 9) hi (by omega)), M_tells hi, gB0_some, nI_1]
    refine ⟨_, rfl, rfl, (gSI_o (by omega)).trans g2, fun k hk => ?_, fun j hj => (gSI_o (by omega)).trans (g4 j hj), fun j hj => (gSI_nj (by omega)).trans (g5 j hj), fun q a b => (gSI_ne b).trans (g6 q a b), g7⟩
    by_cases e : k = i
    · subst e; exact gSI_eq
    · exact (gSI_nj (by omega)).trans (g3 k (by omega))
  · obtain ⟨i', N⟩ := st
    obtain ⟨g1, g2⟩ := hI
    have g1 : i' = nI 9 := g1
    subst g1
    show ∃ r, fX9_clears_9 (nI 9) N = _ ∧ _
    unfold fX9_clears_9
    rw [if_pos (show (9 : Int32) ≤ nI 9 from Int32.le_refl _)]
    exact ⟨_, rfl, g2⟩
theorem M_city {M : gMem} {g : Nat → Nat} {n : Nat} (h : TBm M g n) : ∃ r K, fX9_city M = some (r, K) ∧ OVR M K (lnR g n n v00 0).1 (lnR g n n v00 0).2 r := by
  obtain ⟨A, a1, a2, a3, a4, a5, a6, a7⟩ := M_clears (M := gSI M 141 0 0)
  obtain ⟨B, hB⟩ : ∃ B, B = gSI (gSI (gSI A 141 12 0) 141 13 (-1)) 141 7 0 := ⟨_, rfl⟩
  have bq : ∀ q, q ≠ 141 → B.1 q = A.1 q := fun q x => by rw [hB, gSI_ne x, gSI_ne x, gSI_ne x]
  have bj : ∀ j, j ≠ 0 → j ≠ 7 → j ≠ 12 → j ≠ 13 → B.1 141 j = M.1 141 j := fun j x y z w => by
    rw [hB, gSI_nj y, gSI_nj w, gSI_nj z, a6 141 (by omega) (by omega), gSI_nj x]
  have b2 : B.2 = M.2 := by rw [hB]; exact a7
  have hT : TBm B g n := by
    unfold TBm
    rw [bj 6 (by omega) (by omega) (by omega) (by omega), bq 146 (by omega), a6 146 (by omega) (by omega), gSI_ne (by omega)]; exact h
  obtain ⟨N, n1, n2, n3⟩ := M_next hT (Nat.zero_le n) (show B.1 141 7 = nI 0 by rw [hB, gSI_eq]; rfl)
  have hM : MSt N g n (.inr 0) := ⟨hT.b1 n3, Nat.zero_le n, n2, by rw [n3.2.1 12 (by omega), hB, gSI_nj (by omega), gSI_nj (by omega), gSI_eq], by rw [n3.2.1 13 (by omega), hB, gSI_nj (by omega), gSI_eq]⟩
  have nq : ∀ q, q ≠ 141 → N.1 q = A.1 q := fun q x => (n3.1 q x).trans (bq q x)
  have r0 : R4 N v00 := by
    refine ⟨⟨?_, fun k hk => ?_⟩, fun i hi => absurd hi (Nat.not_lt_zero _), fun i hi => absurd hi (Nat.not_lt_zero _), fun i hi => absurd hi (Nat.not_lt_zero _), fun i hi => absurd hi (Nat.not_lt_zero _)⟩
    · show N.1 147 4 = _
      rw [nq 147 (by omega), a2]; rfl
    · show N.1 148 (36 + k) = _
      rw [nq 148 (by omega), a3 k (by omega)]; rfl
  obtain ⟨r, K, k1, k2⟩ := M_lines hM r0 (by rw [nq 148 (by omega)]; exact a3 8 (by omega))
  refine ⟨r, K, ?_, ?_⟩
  · unfold fX9_city fX9_city_0 fX9_city_6 fX9_begins fX9_begins_0 fX9_begins_7 fX9_begins_12 fX9_begins_16
    rw [a1, gB0_some, ← hB, n1, gB0_some, gB0_some, k1]
  · obtain ⟨h1, h2, h3, h4, h5, h6, h7⟩ := k2
    have e : ∀ q, 147 ≤ q → q < 154 → ∀ j, j < mkO q * 4 → N.1 q j = M.1 q j := fun q x y j hj => by
      rw [nq q (by omega)]
      by_cases c : q = 147
      · subst c
        have hj : j < 4 := hj
        rw [a4 j hj, gSI_ne (by omega)]
      · by_cases d : q = 148
        · subst d
          have hj : j < 36 := hj
          rw [a5 j hj, gSI_ne (by omega)]
        · rw [a6 q c d, gSI_ne (by omega)]
    refine ⟨h1, fun q a b c => (h2 q a b c).trans ((nq q a).trans ((a6 q (by omega) (by omega)).trans (gSI_ne a))), fun q a b j c d => (h3 q a b j c d).trans (e q a b j d), fun q a => (h4 q a).trans ((n3.2.2.1 q a).trans (by rw [b2])), h5.trans (n3.2.2.2.trans (by rw [b2])), fun x hx => ?_, h7⟩
    obtain ⟨a, b⟩ := h6 x hx
    exact ⟨a, fun q c d j hj => (b q c d j hj).trans (e q c d j (Nat.lt_of_lt_of_le hj (mk_4 q)))⟩
/-- an image, where the city that is being read has changed -/
theorem IM_rd {M N : gMem} {k : Nat} (hk : k < 3) (h : IM M k) (h0 : N.1 0 7 = M.1 0 7) (h1 : ∀ q, 66 ≤ q → q < 111 → N.1 q = M.1 q) (h2 : ∀ q, 147 ≤ q → q < 154 → ∀ j, mkO q ≤ j → j < mkO q * 4 → N.1 q j = M.1 q j) (h3 : N.1 154 = M.1 154) : IM N k := by
  obtain ⟨b, b1, b2, b3⟩ := h
  refine ⟨b, by rw [h3]; exact b1, by rw [h0]; exact b2, fun hb => ?_⟩
  obtain ⟨w, w1, w2, w3⟩ := b3 hb
  refine ⟨w, w1, RT_same w2 (fun i hi => h1 _ (by omega) (by omega)), RAk_far w3 (fun q a c j hj hj2 => h2 q a c j ?_ ?_) w1.1 w1.2.2⟩
  · exact Nat.le_trans (Nat.le_mul_of_pos_right _ (by omega)) hj
  · exact Nat.lt_of_lt_of_le hj2 (Nat.mul_le_mul_left _ (by omega))
theorem VI_y {v : gCt} (h : VI v) : yOK v := fun e => by
  have h9 : v 0 9 = 0 := Classical.byContradiction (fun c => by have := h.2.2.2 c; omega)
  obtain ⟨a, b, c, -⟩ := h.2.2.1 h9
  exact ⟨a, b, c, h9⟩
theorem S_city : gSt fX8_city fX9_city := fun M hM => by
  obtain ⟨t, v, z, ⟨h1, h2, h3⟩, g1, g2, g3, ⟨n, n1, n2, n3, n4⟩, g5⟩ := hM
  obtain ⟨g, hg1, hg2⟩ : ∃ g : Nat → Nat, (∀ k, g k < 256) ∧ ∀ k, k < n → M.1 3 k = sx (g k) := by
    have q : ∀ k, ∃ b, b < 256 ∧ (k < n → M.1 3 k = sx b) := fun k => by
      by_cases c : k < n
      · obtain ⟨b, b1, b2⟩ := sx_of (n4 k c).2
        exact ⟨b, b1, fun _ => b2⟩
      · exact ⟨0, by omega, fun x => absurd x c⟩
    exact ⟨fun k => Classical.choose (q k), fun k => (Classical.choose_spec (q k)).1, fun k hk => (Classical.choose_spec (q k)).2 hk⟩
  obtain ⟨T, hT, tT⟩ : ∃ T, M.2.2 1 = T ∧ ((t = 111 ∧ T = 126) ∨ (t = 126 ∧ T = 111)) := by
    have h0 := h1.1.1
    rcases g2 with ⟨a, b⟩ | ⟨a, b⟩
    · exact ⟨126, b, Or.inl ⟨h0.symm.trans a, rfl⟩⟩
    · exact ⟨111, b, Or.inr ⟨h0.symm.trans a, rfl⟩⟩
  have hO : gOb 7 T = true := gTn_ob (tn_2 (by omega))
  have hTc : TBc M g n := ⟨⟨n2, n1⟩, hg1, hg2⟩
  obtain ⟨N, c1, c2, c3, c4⟩ := C_readTape hTc hT hO
  obtain ⟨A, hA⟩ : ∃ A, A = gSI N 2 1 0 := ⟨_, rfl⟩
  have a1 : ∀ q, q ≠ 1 → q ≠ 2 → q < T ∨ T + 15 ≤ q → A.1 q = M.1 q := fun q x y w => by rw [hA, gSI_ne y]; exact c4.1 q x w
  have a2 : A.2 = M.2 := by rw [hA]; exact c4.2
  have aT : ∀ i, i < 15 → A.1 (T + i) = N.1 (T + i) := fun i hi => by rw [hA, gSI_ne (by omega)]
  have a21 : A.1 2 1 = 0 := by rw [hA, gSI_eq]
  have a12 : A.1 1 = N.1 1 := by rw [hA, gSI_ne (by omega)]
  have hf : fX8_city M = if isR (lnR g n n v00 0).1 = true then fX8_city_27 A else some (-4, A) := by
    unfold fX8_city fX8_city_0
    rw [c1, gBp_some]
    dsimp only
    rw [ite_bI, ← hA]
  generalize hR : lnR g n n v00 0 = R at c2 c3 hf
  -- the reference, from any memory that has the class's tape no more
  have ref : ∀ X : gMem, X.1 = A.1 → ∃ r K, fX9_city X = some (r, K) ∧ OVR X K R.1 R.2 r := fun X hX => by
    have hm : TBm X g n := by
      refine ⟨⟨?_, n1⟩, hg1, fun k hk => ?_⟩
      · rw [hX, a1 141 (by omega) (by omega) (by omega)]; exact n3
      · rw [hX, a1 146 (by omega) (by omega) (by omega), ← (n4 k hk).1]; exact hg2 k hk
    obtain ⟨r, K, k1, k2⟩ := M_city hm
    rw [hR] at k2
    exact ⟨r, K, k1, k2⟩
  obtain ⟨hv, hr⟩ : gWF v ∧ RT M t v := ⟨h1.2.1, h1.2.2.1⟩
  generalize hS : R.1 = S at c2 c3 hf
  match S, c2 with
  | .inl e, c2 =>
    obtain ⟨r, K, k1, k2⟩ := ref A rfl
    rw [hS] at k2
    obtain ⟨⟨o1, o2, o3⟩, o4, o5, o6, o7, o8, -⟩ := k2
    obtain ⟨hr4, o9⟩ := o8 e rfl
    subst hr4
    have q1 : ∀ q, q ≠ 1 → q ≠ 2 → q ≠ 141 → q < T ∨ T + 15 ≤ q → q < 147 ∨ 154 ≤ q → K.1 q = M.1 q := fun q a b c d f => (o4 q c (by omega) (by omega)).trans (a1 q a b d)
    have q2 : ∀ q, q ≠ 141 → K.2.1 q = M.2.1 q := fun q a => (o6 q a).trans (by rw [a2])
    have q3 : K.2.2 = M.2.2 := o7.trans (by rw [a2])
    have q4 : ∀ q, 147 ≤ q → q < 154 → ∀ j, j < mkO q → K.1 q j = M.1 q j := fun q a b j c => (o9 q a b j c).trans (by rw [a1 q (by omega) (by omega) (by omega)])
    refine ⟨-4, A, K, by rw [hf]; rfl, k1, t, v, z, ⟨⟨⟨by rw [q3]; exact h1.1.1, h1.1.2⟩, hv, RT_same hr (fun i hi => q1 _ (by omega) (by omega) (by omega) (by omega) (by omega)), RA_at hv h1.2.2.2.1 (fun q a b j c => q4 q a (by omega) j c), RC_at h3 h1.2.2.2.2 (fun q hq j c => q4 q (by omega) (by omega) j c)⟩, h2, h3⟩, RO_same g1 (fun q hq => q1 q (by omega) (by omega) (by omega) (by omega) (by omega)) (fun q hq => q2 q (by omega)), ?_, fun k hk => IM_rd hk (g3 k hk) (by rw [q1 0 (by omega) (by omega) (by omega) (by omega) (by omega)]) (fun q a b => q1 q (by omega) (by omega) (by omega) (by omega) (by omega)) (fun q a b j c d => (o5 q a b j c d).trans (by rw [a1 q (by omega) (by omega) (by omega)])) (q1 154 (by omega) (by omega) (by omega) (by omega) (by omega)), ⟨0, by omega, ?_, o1, fun k hk => absurd hk (Nat.not_lt_zero k)⟩, ?_, ?_⟩
    · unfold TWO; rw [q3]; exact g2
    · rw [o4 2 (by omega) (by omega) (by omega)]; exact a21
    · rw [o4 1 (by omega) (by omega) (by omega), a12, o2]; exact c2.2.2.2.1
    · rw [o4 1 (by omega) (by omega) (by omega), a12, o3]; exact c2.2.2.2.2
  | .inr p, c2 =>
    obtain ⟨rT, hVI⟩ := c3 p rfl
    have e0 : A.2.2 0 = t := by rw [a2]; exact h1.1.1
    have e1 : A.2.2 1 = T := by rw [a2]; exact hT
    have rA : RT A T R.2 := RT_same rT (fun i hi => aT i hi)
    obtain ⟨B, hB⟩ : ∃ B, B = gST (gST A 0 T) 1 t := ⟨_, rfl⟩
    have bB : B.1 = A.1 := by rw [hB]; rfl
    have bB2 : B.2.1 = A.2.1 := by rw [hB]; rfl
    have bT : B.2.2 0 = T ∧ B.2.2 1 = t := by rw [hB]; exact ⟨rfl, rfl⟩
    obtain ⟨r, K, k1, k2⟩ := ref B bB
    rw [hS] at k2
    obtain ⟨⟨o1, o2, o3⟩, o4, o5, o6, o7, -, o8⟩ := k2
    obtain ⟨hr4, o9, o10⟩ := o8 p rfl
    subst hr4
    have q1 : ∀ q, q ≠ 1 → q ≠ 2 → q ≠ 141 → q < T ∨ T + 15 ≤ q → q < 147 ∨ 154 ≤ q → K.1 q = M.1 q := fun q a b c d f => (o4 q c (by omega) (by omega)).trans (by rw [bB]; exact a1 q a b d)
    have q2 : ∀ q, q ≠ 141 → K.2.1 q = M.2.1 q := fun q a => (o6 q a).trans (by rw [bB2, a2])
    have rK : RT K T R.2 := RT_same rA (fun i hi => (o4 _ (by omega) (by omega) (by omega)).trans (by rw [bB]))
    refine ⟨nI (R.2 0 9), B, K, ?_, k1, T, R.2, z, ⟨⟨⟨by rw [o7]; exact bT.1, hO⟩, hVI.1, rK, o9, o10⟩, VI_y hVI, by have := hVI.2.1; omega⟩, RO_same g1 (fun q hq => q1 q (by omega) (by omega) (by omega) (by omega) (by omega)) (fun q hq => q2 q (by omega)), ?_, fun k hk => IM_rd hk (g3 k hk) (by rw [q1 0 (by omega) (by omega) (by omega) (by omega) (by omega)]) (fun q a b => q1 q (by omega) (by omega) (by omega) (by omega) (by omega)) (fun q a b j c d => (o5 q a b j c d).trans (by rw [bB, a1 q (by omega) (by omega) (by omega)])) (q1 154 (by omega) (by omega) (by omega) (by omega) (by omega)), ⟨0, by omega, ?_, o1, fun k hk => absurd hk (Nat.not_lt_zero k)⟩, ?_, ?_⟩
    · rw [hf]
      show fX8_city_27 A = _
      unfold fX8_city_27 fX8_city_47 fX8_city_51
      rw [e0, e1, if_pos h1.1.2, if_pos hO, ← hB, bT.1, if_pos hO, bB, rA.1.1]
    · unfold TWO; rw [o7]
      rcases tT with ⟨rfl, rfl⟩ | ⟨rfl, rfl⟩
      · exact Or.inr bT
      · exact Or.inl bT
    · rw [o4 2 (by omega) (by omega) (by omega), bB]; exact a21
    · rw [o4 1 (by omega) (by omega) (by omega), bB, a12, o2]; exact c2.2.2.2.1
    · rw [o4 1 (by omega) (by omega) (by omega), bB, a12, o3]; exact c2.2.2.2.2
