/-! Gum: the questions. -/
theorem C_chew_0 {M : gMem} {t s : Nat} {v : gCt} {z : gRw} (h : CT M t v) (hr : RO M z) (hs : s < 4) (hg : sgO v z s = 0) : ∃ N, fX8_chew (nI s) M = some (0, N) ∧ GC N v z s (2 ^ v 0 5) ∧ KP M N := by
  obtain ⟨-, h3, hk⟩ := sgO_0 hg
  obtain ⟨N, n1, n2, n3⟩ := C_countSets h hr hs h3 hk
  refine ⟨N, ?_, n2, n3⟩
  unfold fX8_chew fX8_chew_0
  rw [C_slot_k hs, gB0_some]
  show (if gOb 4 (6 + 2 * s) = true then _ else none) = _
  rw [if_pos (gOb4 hs), C_refSights h hr hs, gB0_some, if_pos hg, if_pos (gob_T h), h.1.1, n1, gB0_some, hg]
theorem C_chew_1 {M : gMem} {t s : Nat} {v : gCt} {z : gRw} (h : CT M t v) (hr : RO M z) (hs : s < 4) (hg : ¬ sgO v z s = 0) : fX8_chew (nI s) M = some (sgO v z s, M) := by
  unfold fX8_chew fX8_chew_0
  rw [C_slot_k hs, gB0_some]
  show (if gOb 4 (6 + 2 * s) = true then _ else none) = _
  rw [if_pos (gOb4 hs), C_refSights h hr hs, gB0_some, if_neg hg]
theorem C_chew_2 {x : Int32} (h : inR x 4 = false) (M : gMem) : fX8_chew x M = some (-2, M) := by
  unfold fX8_chew fX8_chew_0
  rw [C_slot_no h]; rfl
theorem Q_gum {t : Nat} {v : gCt} {z : gRw} {f g F G : gFq} {x : Int32} (hf : ∀ M, f M = gBp (fX8_chew x M) (fun r1 M2 => if r1 = 0 then F M2 else some (r1, M2))) (hg : ∀ M, g M = gB0 (fX9_whyNot x (gSI M 141 0 0)) (fun r1 => if r1 = 0 then gB0 (fX9_laysTrues x (gSI M 141 0 0)) (fun M3 => G M3) else some (r1, gSI M 141 0 0)))
    (h : ∀ s, s < 4 → ∃ r, (∀ N, CT N t v → GC N v z s (2 ^ v 0 5) → F N = some (r, N)) ∧ ∀ N, CT N t v → GR N v z s (2 ^ v 0 5) → N.1 141 46 = (gBq v z s).1 → N.1 141 47 = (gBq v z s).2 → G N = some (r, N)) : SR t v z f g := by
  rcases slot_r (x := x) with ⟨s, hs, rfl⟩ | hx
  · by_cases c : sgO v z s = 0
    · obtain ⟨r, h1, h2⟩ := h s hs
      refine ⟨r, fun M hM hR => ?_, fun M hM hR => ?_⟩
      · obtain ⟨N, n1, n2, n3⟩ := C_chew_0 hM hR hs c
        refine ⟨N, ?_, n3⟩
        rw [hf, n1, gBp_some, if_pos rfl]
        exact h1 N (hM.kp n3) n2
      · have hN := hM.kp (kp0 M)
        have hRN := hR.kp (kp0 M)
        obtain ⟨-, h3, hk⟩ := sgO_0 c
        obtain ⟨N, n1, n2, n3, n4, n5⟩ := M_laysTrues hN hRN hs h3 hk
        refine ⟨N, ?_, (kp0 M).tr n5⟩
        rw [hg, M_whyNot hN hRN hs, gB0_some, if_pos c, n1, gB0_some]
        exact h2 N (hN.kp n5) n2 n3 n4
    · refine ⟨sgO v z s, fun M hM hR => ⟨M, ?_, KP.rf⟩, fun M hM hR => ⟨_, ?_, kp0 M⟩⟩
      · rw [hf, C_chew_1 hM hR hs c, gBp_some, if_neg c]
      · rw [hg, M_whyNot (hM.kp (kp0 M)) (hR.kp (kp0 M)) hs, gB0_some, if_neg c]
  · refine ⟨-2, fun M hM hR => ⟨M, ?_, KP.rf⟩, fun M hM hR => ⟨_, ?_, kp0 M⟩⟩
    · rw [hf, C_chew_2 hx]; rfl
    · rw [hg, M_whyNot_no hx]; rfl
theorem Q_trues {t : Nat} {v : gCt} {z : gRw} (x : Int32) : SR t v z (fX8_trues x) (fX9_trues x) := by
  refine Q_gum (F := fun M2 => some ((M2.1 64 0), M2)) (G := fun M3 => some ((M3.1 141 43), M3)) (fun M => rfl) (fun M => rfl) (fun s hs => ⟨guC (gAg v z s) (2 ^ v 0 5), fun N hN hG => ?_, fun N hN hG _ _ => ?_⟩)
  · rw [hG.1]
  · rw [hG.1]
theorem Q_surely {t : Nat} {v : gCt} {z : gRw} (x : Int32) : SR t v z (fX8_surely x) (fX9_surely x) := by
  refine Q_gum (F := fun M2 => if (M2.1 64 0) = 0 then some ((-1 : Int32), M2) else some ((M2.1 64 1), M2)) (G := fun M3 => if (M3.1 141 43) = 0 then some ((-1 : Int32), M3) else some ((M3.1 141 44), M3)) (fun M => rfl) (fun M => rfl) (fun s hs => ⟨if guC (gAg v z s) (2 ^ v 0 5) = 0 then -1 else guA (gJA v) (gAg v z s) (2 ^ v 0 5), fun N hN hG => ?_, fun N hN hG _ _ => ?_⟩)
  · rw [hG.1, hG.2.1]
    by_cases c : guC (gAg v z s) (2 ^ v 0 5) = 0
    · rw [if_pos c, if_pos c]
    · rw [if_neg c, if_neg c]
  · rw [hG.1, hG.2.1]
    by_cases c : guC (gAg v z s) (2 ^ v 0 5) = 0
    · rw [if_pos c, if_pos c]
    · rw [if_neg c, if_neg c]
theorem Q_never {t : Nat} {v : gCt} {z : gRw} (x : Int32) : SR t v z (fX8_never x) (fX9_never x) := by
  refine Q_gum (F := fun M2 => if (M2.1 64 0) = 0 then some ((-1 : Int32), M2) else if gOb 7 (M2.2.2 0) = true then gB0 (fX8_allOf (M2.1 (M2.2.2 0) 6) M2) (fun r5 => some ((r5 &&& ((M2.1 64 2) ^^^ (-1 : Int32))), M2)) else none) (G := fun M3 => if (M3.1 141 43) = 0 then some ((-1 : Int32), M3) else gB0 (fX9_joins M3) (fun r5 => some (((((1 : Int32) <<< (r5 &&& 31)) - (1 : Int32)) &&& ((M3.1 141 45) ^^^ (-1 : Int32))), M3))) (fun M => rfl) (fun M => rfl) (fun s hs => ⟨if guC (gAg v z s) (2 ^ v 0 5) = 0 then -1 else gJA v &&& (guY (gAg v z s) (2 ^ v 0 5) ^^^ (-1)), fun N hN hG => ?_, fun N hN hG _ _ => ?_⟩)
  · have hv0 := hN.2.1.1
    rw [hG.1, hG.2.2.1, if_pos (gob_T hN), tn_nj hN, F_allOf (by omega), gB0_some]
    by_cases c : guC (gAg v z s) (2 ^ v 0 5) = 0
    · rw [if_pos c, if_pos c]
    · rw [if_neg c, if_neg c]; rfl
  · have hv0 := hN.2.1.1
    rw [hG.1, hG.2.2.1, F_joins hN.2.2.2.1, gB0_some, all_k _ (by omega)]
    by_cases c : guC (gAg v z s) (2 ^ v 0 5) = 0
    · rw [if_pos c, if_pos c]
    · rw [if_neg c, if_neg c]; rfl
theorem Q_ask {t : Nat} {v : gCt} {z : gRw} (x : Int32) : SR t v z (fX8_ask x) (fX9_ask x) := by
  refine Q_gum (F := fun M2 => if gOb 7 (M2.2.2 0) = true then gB0 (fX3_bestQuestion (M2.2.2 0) M2) (fun r5 => some (r5, M2)) else none) (G := fun M3 => some ((M3.1 141 46), M3)) (fun M => rfl) (fun M => rfl) (fun s hs => ⟨(gBq v z s).1, fun N hN hG => ?_, fun N hN hG h6 _ => ?_⟩)
  · obtain ⟨b1', b2⟩ := C_bestQuestion (T := fun p d => guT (gAg v z s) (gTh v) p d (2 ^ v 0 5)) hN hG.2.2.2
    rw [hG.1] at b1'
    rw [if_pos (gob_T hN), hN.1.1, b1', gB0_some]
    rfl
  · rw [h6]
theorem Q_leaves {t : Nat} {v : gCt} {z : gRw} (x : Int32) : SR t v z (fX8_leaves x) (fX9_leaves x) := by
  refine Q_gum (F := fun M2 => if gOb 7 (M2.2.2 0) = true then gB0 (fX3_bestQuestion (M2.2.2 0) M2) (fun r5 => gB0 (fX3_leftAtWorst r5 M2) (fun r7 => some (r7, M2))) else none) (G := fun M3 => some ((M3.1 141 47), M3)) (fun M => rfl) (fun M => rfl) (fun s hs => ⟨(gBq v z s).2, fun N hN hG => ?_, fun N hN hG _ h7 => ?_⟩)
  · obtain ⟨b1', b2⟩ := C_bestQuestion (T := fun p d => guT (gAg v z s) (gTh v) p d (2 ^ v 0 5)) hN hG.2.2.2
    rw [hG.1] at b1' b2
    rw [if_pos (gob_T hN), hN.1.1, b1', gB0_some, b2, gB0_some]
    rfl
  · rw [h7]
/-! by which laws -/
def uL : gSp := uG (fun _ => false)
theorem C_supL {M : gMem} {t : Nat} {v : gCt} (h : CT M t v) : ∃ N, fX2_supposeNothing M = some N ∧ CT (gSI N 14 1 1) t v ∧ ∃ K, fX2_live t 1 (gSI N 14 1 1) = some K ∧ LVd K v uL 1 ∧ CT K t v ∧ KP M K := by
  obtain ⟨N, n1, n2, n3, n4, n5⟩ := F_sn M
  have kN : KP M N := ⟨fun q hq => n3 q (by have := scr_no hq; omega), fun j _ => by rw [n3 141 (by omega)], fun q _ _ => by rw [n5], by rw [n5]⟩
  have kS : KP N (gSI N 14 1 1) := (Fr.si (lo := 14) (hi := 15) (by omega) (by omega)).kp (by omega) (by omega)
  have hP := h.kp (kN.tr kS)
  obtain ⟨s0, s1, s2, s3, s4⟩ := n2
  have hS : SU (gSI N 14 1 1) uL := by
    refine ⟨?_, ?_, ?_, ?_, ?_⟩
    · rw [gSI_nj (by omega)]; exact s0
    · rw [gSI_eq]; rfl
    · rw [gSI_nj (by omega)]; exact s2
    · rw [gSI_nj (by omega)]; exact s3
    · rw [gSI_nj (by omega)]; exact s4
  obtain ⟨K, k1, k2, k3⟩ := F_live (n := 1) (gTn_of hP.1.2) hP.2.1 hP.2.2.1 hS (by omega)
  have kK := k3.kp (by omega) (by omega)
  exact ⟨N, n1, hP, K, k1, k2, hP.kp kK, (kN.tr kS).tr kK⟩
theorem jj_0 : ∀ n, n ≤ 7 → (gMk n (fun _ => true) : Int32) &&& (gMk n (fun _ => true) ^^^ (-1)) = gMk 7 (fun _ => false) := by decide +kernel
theorem Q_laws {t : Nat} {v : gCt} {z : gRw} (x : Int32) : SR t v z (fX8_laws x) (fX9_laws x) := by
  rcases slot_r (x := x) with ⟨s, hs, rfl⟩ | hx
  · by_cases c : sgO v z s = 0
    · obtain ⟨-, h3, hk⟩ := sgO_0 c
      refine ⟨gMk 4 (fun l => agO v uL l z s), fun M hM hR => ?_, fun M hM hR => ?_⟩
      · obtain ⟨N, n1, n2, K, k1, k2, k3, k4⟩ := C_supL hM
        refine ⟨K, ?_, k4⟩
        unfold fX8_laws fX8_laws_0
        rw [C_slot_k hs, gB0_some]
        show (if gOb 4 (6 + 2 * s) = true then _ else none) = _
        rw [if_pos (gOb4 hs), C_refSights hM hR hs, gB0_some, if_pos c, n1, gB0_some]
        unfold fX8_laws_42
        rw [if_pos (gob_T n2), n2.1.1, k1, gB0_some]
        unfold fX8_laws_55h
        refine gLp_for (fun i => (gMk i (fun l => agO v uL l z s), nI i)) 4 _ (by omega) (fun i hi => ?_) ?_ _ rfl
        · show fX8_laws_55 (6 + 2 * s) (gMk i _) (nI i) K = _
          unfold fX8_laws_55
          rw [show (4 : Int32) = nI 4 from rfl, if_neg (nI_ge hi (by omega)), if_pos (gob_T k3), k3.1.1, C_agrees k3 (hR.kp k4) k2 hs (by omega) h3 hk, gB0_some, ite_bI, b1_eq, nI_1, gMk_s]
          cases agO v uL i z s <;> rfl
        · show fX8_laws_55 (6 + 2 * s) _ (nI 4) K = _
          unfold fX8_laws_55
          rw [show (4 : Int32) = nI 4 from rfl, if_pos (Int32.le_refl _)]
          rfl
      · have hN := hM.kp (kp0 M)
        have hRN := hR.kp (kp0 M)
        have hv0 := hM.2.1.1
        unfold fX9_laws fX9_laws_0 fX9_laws_7
        rw [M_whyNot hN hRN hs, gB0_some, if_pos c]
        have key : ∃ r, fX9_laws_22h (nI s) (0 : Int32) (0 : Int32) (gSI M 141 0 0) = some r ∧ (r.1 = gMk 4 (fun l => agO v uL l z s) ∧ KP M r.2) := by
          unfold fX9_laws_22h
          refine gLp_inv (fun i (st : Int32 × Int32 × gMem) => st.1 = gMk i (fun l => agO v uL l z s) ∧ st.2.1 = nI i ∧ KP M st.2.2) 4 (fun (r : Int32 × gMem) => r.1 = gMk 4 (fun l => agO v uL l z s) ∧ KP M r.2) (by omega) (fun i st hi hI => ?_) (fun st hI => ?_) _ ⟨rfl, rfl, kp0 M⟩
          · obtain ⟨x3, i', N⟩ := st
            obtain ⟨g1, g2, g3⟩ := hI
            have g1 : x3 = gMk i (fun l => agO v uL l z s) := g1
            have g2 : i' = nI i := g2
            subst g1
            subst g2
            have g3 : KP M N := g3
            have hP := hM.kp g3
            obtain ⟨K, k1, k2, k3, k4, k5, k6, k7⟩ := M_supG hP (jj_0 _ hv0.2.2.2.2.2.1)
            have kL : KP K (gSI K 141 24 (nI i)) := KP.s141 (by omega)
            have kk := (g3.tr k5).tr kL
            refine Or.inl ?_
            show ∃ s', fX9_laws_22 (nI s) (gMk i _) (nI i) N = _ ∧ _
            unfold fX9_laws_22 fX9_laws_49
            rw [show (4 : Int32) = nI 4 from rfl, if_neg (nI_ge hi (by omega)), F_joins hP.2.2.2.1, gB0_some, all_k _ (by omega), k1, gB0_some, M_isSo (law := i) (k4.kp kL) (hR.kp kk) (MV_same k2 (fun q _ _ => gSI_ne (by omega))) gSI_eq hs (by omega) h3 hk, gB0_some, ite_bI, b1_eq, nI_1, Int32.or_zero]
            have hu : agO v (uG (fun _ => false)) i z s = agO v uL i z s := rfl
            rw [hu]
            cases hb : agO v uL i z s
            · rw [if_neg (by decide)]
              refine ⟨_, rfl, ?_, rfl, kk⟩
              show gMk i _ = gMk (i + 1) _
              rw [gMk_s, hb, if_neg (by decide)]
            · rw [if_pos rfl]
              refine ⟨_, rfl, ?_, rfl, kk⟩
              show gMk i _ ||| b1 i = gMk (i + 1) _
              rw [gMk_s, hb, if_pos rfl]
          · obtain ⟨x3, i', N⟩ := st
            obtain ⟨g1, g2, g3⟩ := hI
            have g2 : i' = nI 4 := g2
            subst g2
            show ∃ r, fX9_laws_22 (nI s) x3 (nI 4) N = _ ∧ _
            unfold fX9_laws_22
            rw [show (4 : Int32) = nI 4 from rfl, if_pos (Int32.le_refl _)]
            exact ⟨_, rfl, g1, g3⟩
        obtain ⟨⟨r, N⟩, r1, r2, r3⟩ := key
        have r2 : r = gMk 4 (fun l => agO v uL l z s) := r2
        exact ⟨N, by rw [r1, r2], r3⟩
    · refine ⟨sgO v z s, fun M hM hR => ⟨M, ?_, KP.rf⟩, fun M hM hR => ⟨_, ?_, kp0 M⟩⟩
      · unfold fX8_laws fX8_laws_0
        rw [C_slot_k hs, gB0_some]
        show (if gOb 4 (6 + 2 * s) = true then _ else none) = _
        rw [if_pos (gOb4 hs), C_refSights hM hR hs, gB0_some, if_neg c]
      · unfold fX9_laws fX9_laws_0 fX9_laws_7
        rw [M_whyNot (hM.kp (kp0 M)) (hR.kp (kp0 M)) hs, gB0_some, if_neg c]
  · refine ⟨-2, fun M hM hR => ⟨M, ?_, KP.rf⟩, fun M hM hR => ⟨_, ?_, kp0 M⟩⟩
    · unfold fX8_laws fX8_laws_0
      rw [C_slot_no hx]; rfl
    · unfold fX9_laws fX9_laws_0 fX9_laws_7
      rw [M_whyNot_no hx]; rfl
