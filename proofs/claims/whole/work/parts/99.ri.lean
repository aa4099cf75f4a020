/-! The text: a line, by the reference. -/
/-- of the reference, what no word of a line changes -/
def G2 (M N : gMem) : Prop := (∀ j, j < 7 ∨ 14 ≤ j → N.1 141 j = M.1 141 j) ∧ (∀ q, q ≠ 141 → N.2.1 q = M.2.1 q) ∧ N.2.2 = M.2.2
theorem G2.rf {M : gMem} : G2 M M := ⟨fun _ _ => rfl, fun _ _ => rfl, rfl⟩
theorem G2.tr {M N K : gMem} (h : G2 M N) (g : G2 N K) : G2 M K := ⟨fun j hj => (g.1 j hj).trans (h.1 j hj), fun q hq => (g.2.1 q hq).trans (h.2.1 q hq), g.2.2.trans h.2.2⟩
theorem Fm.g2 {M N : gMem} (h : Fm M N) : G2 M N := ⟨h.2.1, h.2.2.1, h.2.2.2⟩
theorem G2.si {M : gMem} {q j : Nat} {x : Int32} (h : q ≠ 141) : G2 M (gSI M q j x) := ⟨fun k _ => gSI_o (Ne.symm h), fun _ _ => rfl, rfl⟩
theorem MSt.o {M : gMem} {g : Nat → Nat} {n : Nat} {s : gPs} (h : MSt M g n s) {q j : Nat} {x : Int32} (h1 : q ≠ 141) (h2 : q ≠ 146) : MSt (gSI M q j x) g n s := by
  have e1 : (gSI M q j x).1 141 = M.1 141 := gSI_ne (Ne.symm h1)
  have e2 : (gSI M q j x).1 146 = M.1 146 := gSI_ne (Ne.symm h2)
  unfold MSt TBm TKm
  rw [e1, e2]
  exact h
theorem M_num {M : gMem} {g : Nat → Nat} {n lo hi : Nat} {s : gPs} {x1 x2 : Int32} (h : MSt M g n s) (h1 : x1 = nI lo) (hl : lo < 2 ^ 31) (hx : x2.toInt = (hi : Int) - 1) : ∃ r N, fX9_number x1 x2 M = some (r, N) ∧ MSt N g n (sB s (rdN g n lo hi)) ∧ Fm M N ∧ ∀ q, sB s (rdN g n lo hi) = .inr q → r = nI (pv g n s) := by
  subst h1
  obtain ⟨r, N, n1, n2, n3, n4⟩ := M_number h hl hx
  refine ⟨r, N, n1, n2, n3, fun q hq => ?_⟩
  obtain ⟨p, rfl, hp⟩ := sB_inr hq
  obtain ⟨a, b, c, -⟩ := rdN_ok hp
  exact n4 p rfl a
theorem M_wnum {M : gMem} {g : Nat → Nat} {n lo hi w : Nat} {s : gPs} {x0 : Int64} {x1 x2 : Int32} (h : MSt M g n s) (h0 : x0 = hW w) (hw : w < 14) (h1 : x1 = nI lo) (hl : lo < 2 ^ 31) (hx : x2.toInt = (hi : Int) - 1) : ∃ r N, fX9_number_ x0 x1 x2 M = some (r, N) ∧ MSt N g n (sB (sB s (rdW g n w)) (rdN g n lo hi)) ∧ Fm M N ∧ ∀ q, sB (sB s (rdW g n w)) (rdN g n lo hi) = .inr q → r = nI (pv g n (sB s (rdW g n w))) := by
  subst h0
  obtain ⟨N, n1, n2, n3⟩ := M_asks h hw
  obtain ⟨r, K, k1, k2, k3, k4⟩ := M_num n2 h1 hl hx
  unfold fX9_number_ fX9_number__0
  rw [n1, gB0_some, k1, gBp_some]
  exact ⟨r, K, rfl, k2, n3.tr k3, k4⟩
theorem M_hasRead {M : gMem} {k : Nat} (h : k < 9) : fX9_hasRead (nI k) M = some (M.1 148 (36 + k)) := by
  unfold fX9_hasRead fX9_hasRead_0
  rw [show (36 : Int32) = nI 36 from rfl, nI_add, if_pos (ix148 (by omega)), nI_clamp (by omega)]
theorem M_tells {M : gMem} {k : Nat} (h : k < 9) (x : Int32) : fX9_tells (nI k) x M = some (gSI M 148 (36 + k) x) := by
  unfold fX9_tells fX9_tells_0
  rw [show (36 : Int32) = nI 36 from rfl, nI_add, if_pos (ix148 (by omega)), nI_clamp (by omega)]
/-! the head -/
theorem M_head {α : Type} {M : gMem} {g : Nat → Nat} {n p : Nat} (F : gMem → Option α) (h : MSt M g n (.inr p)) : ∃ N, (gB0 (fX9_asks (66175 : Int64) M) (fun M4 => gBp (fX9_number_ (13385674 : Int64) (1 : Int32) (12 : Int32) M4) (fun r6 M7 => gB0 (fX9_tells (0 : Int32) r6 M7) (fun M9 => gBp (fX9_number_ (8798 : Int64) (0 : Int32) (3 : Int32) M9) (fun r11 M12 => gB0 (fX9_tells (1 : Int32) r11 M12) (fun M14 => gBp (fX9_number_ (10349251 : Int64) (0 : Int32) (20 : Int32) M14) (fun r16 M17 => gB0 (fX9_tells (2 : Int32) r16 M17) (fun M19 => gBp (fX9_number_ (298288 : Int64) (0 : Int32) (10 : Int32) M19) (fun r21 M22 => gB0 (fX9_tells (3 : Int32) r21 M22) (fun M24 => F M24)))))))))) = F N ∧ MSt N g n (hd5 g n (.inr p)) ∧ (∀ q, hd5 g n (.inr p) = .inr q → N.1 148 36 = nI (pv g n (hd1 g n (.inr p))) ∧ N.1 148 37 = nI (pv g n (hd2 g n (.inr p))) ∧ N.1 148 38 = nI (pv g n (hd3 g n (.inr p))) ∧ N.1 148 39 = nI (pv g n (hd4 g n (.inr p)))) ∧ (∀ j, j < 36 ∨ 40 ≤ j → N.1 148 j = M.1 148 j) ∧ (∀ q, q ≠ 141 → q ≠ 148 → N.1 q = M.1 q) ∧ G2 M N := by
  have oq : ∀ {X Y : gMem} {q : Nat}, Fm X Y → q ≠ 141 → Y.1 q = X.1 q := fun f hq => f.1 _ hq
  obtain ⟨A, a1, a2, a3⟩ := M_asks (w := 0) h (by omega)
  obtain ⟨r1, C, c1, c2, c3, c4⟩ := M_wnum (w := 1) (lo := 1) (hi := 13) (x0 := 13385674) (x1 := 1) (x2 := 12) a2 rfl (by omega) rfl (by omega) rfl
  have ct := M_tells (M := C) (k := 0) (by omega) r1
  obtain ⟨r2, E, e1, e2, e3, e4⟩ := M_wnum (w := 2) (lo := 0) (hi := 4) (x0 := 8798) (x1 := 0) (x2 := 3) (c2.o (q := 148) (j := 36) (x := r1) (by omega) (by omega)) rfl (by omega) rfl (by omega) rfl
  have et := M_tells (M := E) (k := 1) (by omega) r2
  obtain ⟨r3, G, g1, g2, g3, g4⟩ := M_wnum (w := 3) (lo := 0) (hi := 21) (x0 := 10349251) (x1 := 0) (x2 := 20) (e2.o (q := 148) (j := 37) (x := r2) (by omega) (by omega)) rfl (by omega) rfl (by omega) rfl
  have gt := M_tells (M := G) (k := 2) (by omega) r3
  obtain ⟨r4, I, i1, i2, i3, i4⟩ := M_wnum (w := 4) (lo := 0) (hi := 11) (x0 := 298288) (x1 := 0) (x2 := 10) (g2.o (q := 148) (j := 38) (x := r3) (by omega) (by omega)) rfl (by omega) rfl (by omega) rfl
  have it := M_tells (M := I) (k := 3) (by omega) r4
  rw [show (66175 : Int64) = hW 0 from rfl, a1, gB0_some, c1, gBp_some]
  dsimp only
  rw [show (0 : Int32) = nI 0 from rfl, ct, gB0_some]
  rw [show (nI 0 : Int32) = 0 from rfl]
  rw [e1, gBp_some]
  dsimp only
  rw [show fX9_tells (1 : Int32) r2 E = _ from et, gB0_some, g1, gBp_some]
  dsimp only
  rw [show fX9_tells (2 : Int32) r3 G = _ from gt, gB0_some, i1, gBp_some]
  dsimp only
  rw [show fX9_tells (3 : Int32) r4 I = _ from it, gB0_some]
  refine ⟨_, rfl, i2.o (by omega) (by omega), fun q hq => ?_, fun j hj => ?_, fun q q1 q2 => ?_, a3.g2.tr (c3.g2.tr ((G2.si (by omega)).tr (e3.g2.tr ((G2.si (by omega)).tr (g3.g2.tr ((G2.si (by omega)).tr (i3.g2.tr (G2.si (by omega)))))))))⟩
  · have k4 := i4 q hq
    obtain ⟨p4, hp4⟩ := sB_n hq
    obtain ⟨p4', hp4'⟩ := sB_n hp4
    have k3 := g4 p4' hp4'
    obtain ⟨p3, hp3⟩ := sB_n hp4'
    obtain ⟨p3', hp3'⟩ := sB_n hp3
    have k2 := e4 p3' hp3'
    obtain ⟨p2, hp2⟩ := sB_n hp3'
    obtain ⟨p2', hp2'⟩ := sB_n hp2
    have k1 := c4 p2' hp2'
    refine ⟨?_, ?_, ?_, ?_⟩
    · rw [gSI_nj (by omega), oq i3 (by omega), gSI_nj (by omega), oq g3 (by omega), gSI_nj (by omega), oq e3 (by omega), gSI_eq]; exact k1
    · rw [gSI_nj (by omega), oq i3 (by omega), gSI_nj (by omega), oq g3 (by omega), gSI_eq]; exact k2
    · rw [gSI_nj (by omega), oq i3 (by omega), gSI_eq]; exact k3
    · rw [gSI_eq]; exact k4
  · rw [gSI_nj (by omega), oq i3 (by omega), gSI_nj (by omega), oq g3 (by omega), gSI_nj (by omega), oq e3 (by omega), gSI_nj (by omega), oq c3 (by omega), oq a3 (by omega)]
  · rw [gSI_ne q2, oq i3 q1, gSI_ne q2, oq g3 q1, gSI_ne q2, oq e3 q1, gSI_ne q2, oq c3 q1, oq a3 q1]
/-! a partner -/
theorem M_partnerLine {M : gMem} {g : Nat → Nat} {n p c : Nat} (h : MSt M g n (.inr (tE g n p))) (hc : M.1 148 40 = nI c) (h6 : c < 6) : ∃ N, fX9_partnerLine M = some N ∧ MSt N g n (pr4 g n p) ∧ (∀ q, pr4 g n p = .inr q → N.1 149 (72 + 3 * c) = nI (pv g n (pr1 g n p)) ∧ N.1 149 (72 + (3 * c + 1)) = nI (pv g n (pr2 g n p)) ∧ N.1 149 (72 + (3 * c + 2)) = nI (pv g n (pr3 g n p))) ∧ N.1 148 40 = nI (c + 1) ∧ (∀ j, j ≠ 40 → N.1 148 j = M.1 148 j) ∧ (∀ j, j < 72 + 3 * c ∨ 72 + 3 * c + 3 ≤ j → N.1 149 j = M.1 149 j) ∧ (∀ q, q ≠ 141 → q ≠ 148 → q ≠ 149 → N.1 q = M.1 q) ∧ G2 M N := by
  have oq : ∀ {X Y : gMem} {q : Nat}, Fm X Y → q ≠ 141 → Y.1 q = X.1 q := fun f hq => f.1 _ hq
  unfold fX9_partnerLine fX9_partnerLine_0 fX9_partnerLine_41 fX9_partnerLine_59 fX9_partnerLine_67
  rw [show (4 : Int32) = nI 4 from rfl, M_hasRead (by omega), hc, gB0_some, show (3 : Int32) = nI 3 from rfl, show (24 : Int32) = nI 24 from rfl, nI_add, pk_mul, show 3 * (24 + c) = 72 + 3 * c by omega, show (nI (72 + 3 * c) : Int32) + (1 : Int32) = nI (72 + (3 * c + 1)) from nI_add _ 1, show (nI (72 + 3 * c) : Int32) + (2 : Int32) = nI (72 + (3 * c + 2)) from nI_add _ 2]
  obtain ⟨r1, C, c1, c2, c3, c4⟩ := M_wnum (w := 6) (lo := 1) (hi := 10) (x0 := 459383) (x1 := 1) (x2 := 9) h rfl (by omega) rfl (by omega) rfl
  rw [c1, gBp_some, if_pos (ix149 (by omega)), nI_clamp (by omega)]
  dsimp only
  obtain ⟨r2, E, e1, e2, e3, e4⟩ := M_wnum (w := 7) (lo := 0) (hi := 100) (x0 := 12532058) (x1 := 0) (x2 := 99) (c2.o (q := 149) (j := 72 + 3 * c) (x := r1) (by omega) (by omega)) rfl (by omega) rfl (by omega) rfl
  rw [e1, gBp_some, if_pos (ix149 (by omega)), nI_clamp (by omega)]
  dsimp only
  obtain ⟨r3, G, g1, g2, g3, g4⟩ := M_wnum (w := 8) (lo := 0) (hi := 10) (x0 := 3746728) (x1 := 0) (x2 := 9) (e2.o (q := 149) (j := 72 + (3 * c + 1)) (x := r2) (by omega) (by omega)) rfl (by omega) rfl (by omega) rfl
  rw [g1, gBp_some, if_pos (ix149 (by omega)), nI_clamp (by omega)]
  dsimp only
  have v5 : (gSI G 149 (72 + (3 * c + 2)) r3).1 148 (36 + 4) = nI c := by
    rw [gSI_o (by omega), oq g3 (by omega), gSI_o (by omega), oq e3 (by omega), gSI_o (by omega), oq c3 (by omega)]; exact hc
  rw [M_hasRead (by omega), v5, gB0_some, nI_1, M_tells (by omega), gB0_some]
  refine ⟨_, rfl, (g2.o (by omega) (by omega)).o (by omega) (by omega), fun q hq => ?_, gSI_eq, fun j hj => ?_, fun j hj => ?_, fun q q1 q2 q3 => ?_, c3.g2.tr ((G2.si (by omega)).tr (e3.g2.tr ((G2.si (by omega)).tr (g3.g2.tr ((G2.si (by omega)).tr (G2.si (by omega)))))))⟩
  · have k3 := g4 q hq
    obtain ⟨p3, hp3⟩ := sB_n hq
    obtain ⟨p3', hp3'⟩ := sB_n hp3
    have k2 := e4 p3' hp3'
    obtain ⟨p2, hp2⟩ := sB_n hp3'
    obtain ⟨p2', hp2'⟩ := sB_n hp2
    have k1 := c4 p2' hp2'
    refine ⟨?_, ?_, ?_⟩
    · rw [gSI_o (by omega), gSI_nj (by omega), oq g3 (by omega), gSI_nj (by omega), oq e3 (by omega), gSI_eq]; exact k1
    · rw [gSI_o (by omega), gSI_nj (by omega), oq g3 (by omega), gSI_eq]; exact k2
    · rw [gSI_o (by omega), gSI_eq]; exact k3
  · rw [gSI_nj hj, gSI_o (by omega), oq g3 (by omega), gSI_o (by omega), oq e3 (by omega), gSI_o (by omega), oq c3 (by omega)]
  · rw [gSI_o (by omega), gSI_nj (by omega), oq g3 (by omega), gSI_nj (by omega), oq e3 (by omega), gSI_nj (by omega), oq c3 (by omega)]
  · rw [gSI_ne q2, gSI_ne q3, oq g3 q1, gSI_ne q3, oq e3 q1, gSI_ne q3, oq c3 q1]
/-! a door -/
theorem M_doorLine {M : gMem} {g : Nat → Nat} {n p c : Nat} (h : MSt M g n (.inr (tE g n p))) (hc : M.1 148 42 = nI c) (h6 : c < 5) : ∃ N, fX9_doorLine M = some N ∧ MSt N g n (dr2 g n p) ∧ (∀ q, dr2 g n p = .inr q → N.1 151 (20 + c) = nI (pv g n (dr1 g n p))) ∧ N.1 148 42 = nI (c + 1) ∧ (∀ j, j ≠ 42 → N.1 148 j = M.1 148 j) ∧ (∀ j, j ≠ 20 + c → N.1 151 j = M.1 151 j) ∧ (∀ q, q ≠ 141 → q ≠ 148 → q ≠ 151 → N.1 q = M.1 q) ∧ G2 M N := by
  have oq : ∀ {X Y : gMem} {q : Nat}, Fm X Y → q ≠ 141 → Y.1 q = X.1 q := fun f hq => f.1 _ hq
  unfold fX9_doorLine fX9_doorLine_0 fX9_doorLine_27
  rw [show (6 : Int32) = nI 6 from rfl, M_hasRead (by omega), hc, gB0_some, show (20 : Int32) = nI 20 from rfl, nI_add]
  obtain ⟨r1, C, c1, c2, c3, c4⟩ := M_num (lo := 1) (hi := 61) (x1 := 1) (x2 := 60) h rfl (by omega) rfl
  rw [c1, gBp_some, if_pos (ix151 (by omega)), nI_clamp (by omega)]
  dsimp only
  have v5 : (gSI C 151 (20 + c) r1).1 148 (36 + 6) = nI c := by
    rw [gSI_o (by omega), oq c3 (by omega)]; exact hc
  rw [M_hasRead (by omega), v5, gB0_some, nI_1, M_tells (by omega), gB0_some]
  refine ⟨_, rfl, (c2.o (by omega) (by omega)).o (by omega) (by omega), fun q hq => ?_, gSI_eq, fun j hj => ?_, fun j hj => ?_, fun q q1 q2 q3 => ?_, c3.g2.tr ((G2.si (by omega)).tr (G2.si (by omega)))⟩
  · rw [gSI_o (by omega), gSI_eq]; exact c4 q hq
  · rw [gSI_nj hj, gSI_o (by omega), oq c3 (by omega)]
  · rw [gSI_o (by omega), gSI_nj hj, oq c3 (by omega)]
  · rw [gSI_ne q2, gSI_ne q3, oq c3 q1]
theorem M_personHere {M : gMem} {g : Nat → Nat} {n np : Nat} {s : gPs} (h : MSt M g n s) (hn : M.1 148 40 = nI np) (hn6 : np ≤ 6) : ∃ r N, fX9_personHere M = some (r, N) ∧ MSt N g n (sB s (rdN g n 0 np)) ∧ Fm M N ∧ ∀ q, sB s (rdN g n 0 np) = .inr q → r = nI (pv g n s) := by
  unfold fX9_personHere fX9_personHere_0
  rw [show (4 : Int32) = nI 4 from rfl, M_hasRead (by omega), hn, gB0_some]
  obtain ⟨r1, C, c1, c2, c3, c4⟩ := M_num (lo := 0) (hi := np) (x1 := 0) (x2 := nI np - 1) h rfl (by omega) (np_1 np hn6)
  rw [c1, gBp_some]
  exact ⟨r1, C, rfl, c2, c3, c4⟩
/-! a cold -/
theorem M_coldLine {M : gMem} {g : Nat → Nat} {n p c np : Nat} (h : MSt M g n (.inr (tE g n p))) (hc : M.1 148 43 = nI c) (h6 : c < 5) (hn : M.1 148 40 = nI np) (hn6 : np ≤ 6) : ∃ N, fX9_coldLine M = some N ∧ MSt N g n (co3 g n np p) ∧ (∀ q, co3 g n np p = .inr q → N.1 152 (40 + 2 * c) = nI (pv g n (dr1 g n p)) ∧ N.1 152 (40 + (2 * c + 1)) = nI (pv g n (co2 g n np p))) ∧ N.1 148 43 = nI (c + 1) ∧ (∀ j, j ≠ 43 → N.1 148 j = M.1 148 j) ∧ (∀ j, j < 40 + 2 * c ∨ 40 + 2 * c + 2 ≤ j → N.1 152 j = M.1 152 j) ∧ (∀ q, q ≠ 141 → q ≠ 148 → q ≠ 152 → N.1 q = M.1 q) ∧ G2 M N := by
  have oq : ∀ {X Y : gMem} {q : Nat}, Fm X Y → q ≠ 141 → Y.1 q = X.1 q := fun f hq => f.1 _ hq
  unfold fX9_coldLine fX9_coldLine_0 fX9_coldLine_36 fX9_coldLine_46
  rw [show (7 : Int32) = nI 7 from rfl, M_hasRead (by omega), hc, gB0_some, show (2 : Int32) = nI 2 from rfl, show (20 : Int32) = nI 20 from rfl, nI_add, pk_mul, show 2 * (20 + c) = 40 + 2 * c by omega, show (nI (40 + 2 * c) : Int32) + (1 : Int32) = nI (40 + (2 * c + 1)) from nI_add _ 1]
  obtain ⟨r1, C, c1, c2, c3, c4⟩ := M_personHere h hn hn6
  rw [c1, gBp_some, if_pos (ix152 (by omega)), nI_clamp (by omega)]
  dsimp only
  obtain ⟨r2, E, e1, e2, e3, e4⟩ := M_wnum (w := 13) (lo := 0) (hi := 12) (x0 := 47) (x1 := 0) (x2 := 11) (c2.o (q := 152) (j := 40 + 2 * c) (x := r1) (by omega) (by omega)) rfl (by omega) rfl (by omega) rfl
  rw [e1, gBp_some, if_pos (ix152 (by omega)), nI_clamp (by omega)]
  dsimp only
  have v5 : (gSI E 152 (40 + (2 * c + 1)) r2).1 148 (36 + 7) = nI c := by
    rw [gSI_o (by omega), oq e3 (by omega), gSI_o (by omega), oq c3 (by omega)]; exact hc
  rw [M_hasRead (by omega), v5, gB0_some, nI_1, M_tells (by omega), gB0_some]
  refine ⟨_, rfl, (e2.o (by omega) (by omega)).o (by omega) (by omega), fun q hq => ?_, gSI_eq, fun j hj => ?_, fun j hj => ?_, fun q q1 q2 q3 => ?_, c3.g2.tr ((G2.si (by omega)).tr (e3.g2.tr ((G2.si (by omega)).tr (G2.si (by omega)))))⟩
  · have k2 := e4 q hq
    obtain ⟨p2, hp2⟩ := sB_n hq
    obtain ⟨p2', hp2'⟩ := sB_n hp2
    have k1 := c4 p2' hp2'
    refine ⟨?_, ?_⟩
    · rw [gSI_o (by omega), gSI_nj (by omega), oq e3 (by omega), gSI_eq]; exact k1
    · rw [gSI_o (by omega), gSI_eq]; exact k2
  · rw [gSI_nj hj, gSI_o (by omega), oq e3 (by omega), gSI_o (by omega), oq c3 (by omega)]
  · rw [gSI_o (by omega), gSI_nj (by omega), oq e3 (by omega), gSI_nj (by omega), oq c3 (by omega)]
  · rw [gSI_ne q2, gSI_ne q3, oq e3 q1, gSI_ne q3, oq c3 q1]
/-! a join -/
theorem M_df {M : gMem} {g : Nat → Nat} {n a x : Nat} {s : gPs} {α : Type} (F : gMem → Option α) (h : MSt M g n s) (hx : x < 105) (ha : ∀ q, s = .inr q → M.1 150 x = nI a ∧ a < 1000) : ∃ N, (if (M.1 141 12) = 0 then if (M.1 141 8) = (2 : Int32) then if gIx 1 150 (nI x) = true then if (M.1 141 10) = (M.1 150 (Int32.toNatClampNeg (nI x))) then gB0 (fX9_errs (2 : Int32) M) (fun M2 => F M2) else F M else none else F M else F M) = F N ∧ MSt N g n (sB s (dfS g n a)) ∧ Fm M N := by
  match s, h with
  | .inr q, h =>
    have h' := h
    obtain ⟨h1, h2, ⟨k9, k7, k8, k10, -⟩, h4, h5⟩ := h'
    obtain ⟨a1, a2⟩ := ha q rfl
    have kl := tK_le g n q
    have vl := tV_le g n q h1.2.1
    show ∃ N, _ ∧ MSt N g n (dfS g n a q) ∧ _
    unfold dfS
    rw [h4, if_pos (rfl : (0 : Int32) = 0), k8, k10, if_pos (ix150 hx), nI_clamp (by omega), a1]
    by_cases c1 : tK g n q = 2
    · rw [c1, if_pos (show nI 2 = 2 from rfl)]
      simp only [nI_eq (show tV g n q < 2 ^ 31 by omega) (show a < 2 ^ 31 by omega)]
      by_cases c2 : tV g n q = a
      · rw [if_pos c2, if_pos ⟨trivial, c2⟩]
        obtain ⟨N, n1, n2, n3⟩ := M_errs (k := 2) h (by omega)
        rw [show (2 : Int32) = nI 2 from rfl, n1, gB0_some]
        exact ⟨N, rfl, n2, n3⟩
      · rw [if_neg c2, if_neg (fun h => c2 h.2)]
        exact ⟨M, rfl, h, Fm.rf⟩
    · rw [if_neg (show ¬ nI (tK g n q) = (2 : Int32) from nI_nek kl (show 2 ≤ 4 by omega) c1), if_neg (fun h => c1 h.1)]
      exact ⟨M, rfl, h, Fm.rf⟩
  | .inl e, h =>
    have h' := h
    obtain ⟨h1, h4, h5, h6⟩ := h'
    rw [h5, if_neg (nI_ne0 (by omega) (by omega))]
    exact ⟨M, rfl, h, Fm.rf⟩
theorem M_joinLine {M : gMem} {g : Nat → Nat} {n p c np : Nat} (h : MSt M g n (.inr (tE g n p))) (hc : M.1 148 41 = nI c) (h6 : c < 7) (hn : M.1 148 40 = nI np) (hn6 : np ≤ 6) : ∃ N, fX9_joinLine M = some N ∧ MSt N g n (jn4 g n np p) ∧ (∀ q, jn4 g n np p = .inr q → N.1 150 (84 + 3 * c) = nI (pv g n (dr1 g n p)) ∧ N.1 150 (84 + (3 * c + 1)) = nI (pv g n (jn2 g n np p)) ∧ N.1 150 (84 + (3 * c + 2)) = nI (pv g n (jn3 g n np p))) ∧ N.1 148 41 = nI (c + 1) ∧ (∀ j, j ≠ 41 → N.1 148 j = M.1 148 j) ∧ (∀ j, j < 84 + 3 * c ∨ 84 + 3 * c + 3 ≤ j → N.1 150 j = M.1 150 j) ∧ (∀ q, q ≠ 141 → q ≠ 148 → q ≠ 150 → N.1 q = M.1 q) ∧ G2 M N := by
  have oq : ∀ {X Y : gMem} {q : Nat}, Fm X Y → q ≠ 141 → Y.1 q = X.1 q := fun f hq => f.1 _ hq
  unfold fX9_joinLine fX9_joinLine_0 fX9_joinLine_22
  rw [show (5 : Int32) = nI 5 from rfl, M_hasRead (by omega), hc, gB0_some, show (3 : Int32) = nI 3 from rfl, show (28 : Int32) = nI 28 from rfl, nI_add, pk_mul, show 3 * (28 + c) = 84 + 3 * c by omega]
  obtain ⟨r1, C, c1, c2, c3, c4⟩ := M_personHere h hn hn6
  rw [c1, gBp_some, if_pos (ix150 (by omega)), nI_clamp (by omega)]
  dsimp only
  obtain ⟨B, b1', b2, b3⟩ := M_df (a := pv g n (dr1 g n p)) (x := 84 + 3 * c) (fun X => fX9_joinLine_54 (nI (84 + 3 * c)) X) (c2.o (q := 150) (j := 84 + 3 * c) (x := r1) (by omega) (by omega)) (by omega) (fun q hq => ⟨by rw [gSI_eq]; exact c4 q hq, by
    obtain ⟨-, -, d, -⟩ := rdN_ok (show rdN g n 0 np (tE g n p) = .inr q from hq)
    show tV g n (tE g n p) < 1000
    omega⟩)
  rw [nI_clamp (show 84 + 3 * c < 2 ^ 31 by omega)] at b1'
  rw [b1']
  unfold fX9_joinLine_54 fX9_joinLine_80 fX9_joinLine_88
  have eN : B.1 148 40 = nI np := by rw [oq b3 (by omega), gSI_o (by omega), oq c3 (by omega)]; exact hn
  obtain ⟨r2, E, e1, e2, e3, e4⟩ := M_personHere b2 eN hn6
  rw [e1, gBp_some, show (nI (84 + 3 * c) : Int32) + (1 : Int32) = nI (84 + (3 * c + 1)) from nI_add _ 1, show (nI (84 + 3 * c) : Int32) + (2 : Int32) = nI (84 + (3 * c + 2)) from nI_add _ 2, if_pos (ix150 (by omega)), nI_clamp (by omega)]
  dsimp only
  obtain ⟨r3, G, g1, g2, g3, g4⟩ := M_wnum (w := 10) (lo := 1) (hi := 10) (x0 := 16818) (x1 := 1) (x2 := 9) (e2.o (q := 150) (j := 84 + (3 * c + 1)) (x := r2) (by omega) (by omega)) rfl (by omega) rfl (by omega) rfl
  rw [g1, gBp_some, if_pos (ix150 (by omega)), nI_clamp (by omega)]
  dsimp only
  have v5 : (gSI G 150 (84 + (3 * c + 2)) r3).1 148 (36 + 5) = nI c := by
    rw [gSI_o (by omega), oq g3 (by omega), gSI_o (by omega), oq e3 (by omega), oq b3 (by omega), gSI_o (by omega), oq c3 (by omega)]; exact hc
  rw [show (5 : Int32) = nI 5 from rfl, M_hasRead (by omega), v5, gB0_some, nI_1, M_tells (by omega), gB0_some]
  refine ⟨_, rfl, (g2.o (by omega) (by omega)).o (by omega) (by omega), fun q hq => ?_, gSI_eq, fun j hj => ?_, fun j hj => ?_, fun q q1 q2 q3 => ?_, c3.g2.tr ((G2.si (by omega)).tr (b3.g2.tr (e3.g2.tr ((G2.si (by omega)).tr (g3.g2.tr ((G2.si (by omega)).tr (G2.si (by omega))))))))⟩
  · have k3 := g4 q hq
    obtain ⟨p3, hp3⟩ := sB_n hq
    obtain ⟨p3', hp3'⟩ := sB_n hp3
    have k2 := e4 p3' hp3'
    obtain ⟨p2, hp2⟩ := sB_n hp3'
    obtain ⟨p1, hp1, hp1'⟩ := sB_inr hp2
    have k1 := c4 p1 hp1
    refine ⟨?_, ?_, ?_⟩
    · rw [gSI_o (by omega), gSI_nj (by omega), oq g3 (by omega), gSI_nj (by omega), oq e3 (by omega), oq b3 (by omega), gSI_eq]; exact k1
    · rw [gSI_o (by omega), gSI_nj (by omega), oq g3 (by omega), gSI_eq]; exact k2
    · rw [gSI_o (by omega), gSI_eq]; exact k3
  · rw [gSI_nj hj, gSI_o (by omega), oq g3 (by omega), gSI_o (by omega), oq e3 (by omega), oq b3 (by omega), gSI_o (by omega), oq c3 (by omega)]
  · rw [gSI_o (by omega), gSI_nj (by omega), oq g3 (by omega), gSI_nj (by omega), oq e3 (by omega), oq b3 (by omega), gSI_nj (by omega), oq c3 (by omega)]
  · rw [gSI_ne q2, gSI_ne q3, oq g3 q1, gSI_ne q3, oq e3 q1, oq b3 q1, gSI_ne q3, oq c3 q1]
