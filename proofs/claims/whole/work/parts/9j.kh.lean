/-! The law: its loop; and what it makes. -/
def gSwT (x : Int32) (d : Nat) : List (Int32 × Nat) → Nat
  | [] => d
  | q :: ts => if x = q.1 then q.2 else gSwT x d ts
theorem gSw_T {x : Int32} {L : gLoc} {S : List Value} {M : gMem} {d : Nat} : ∀ ts : List (Int32 × Nat), gSw x L S M d ts = some (gSwT x d ts, L, S, M)
  | [] => by unfold gSw gSwT; rfl
  | q :: ts => by
    unfold gSw gSwT
    by_cases h : x = q.1
    · rw [if_pos h, if_pos h]
    · rw [if_neg h, if_neg h]; exact gSw_T ts
def vTg (k : Nat) : Nat := if k < 66 then ([312, 375, 398, 411, 434, 467, 500, 523, 546, 589, 622, 645, 678, 711, 734, 777, 800, 823, 856, 889, 912, 935, 958, 981, 994, 1027, 1050, 1073, 1096, 1119, 1142, 1165, 1208, 1241, 1274, 1307, 1340, 1373, 1396, 1419, 1432, 1455, 1478, 1501, 1524, 1547, 1570, 1603, 1636, 1689, 1722, 1765, 1808, 1831, 1884, 1927, 1940, 1953, 1986, 2029, 2052, 2075, 2098, 2121, 2164, 2237] : List Nat).getD k 0 else 2300
theorem v_tg : ∀ k, k < 128 → gSwT (nI k) 2300 vTs = vTg k := by decide +kernel
section LLP
variable {p : Program} {l : Launch} {e : Env} {s : State} {m : MethodId} {args : Array Value} {below : List Frame} {meth : Method} {c : Code} {cells slots : Nat} {Q : State → Prop} {G : gG} {b Ln : Nat} {xs : Nat → Int32}
theorem v_case (C : vCx p s m args c cells slots G b Ln xs) {i : Nat} (hin : ∀ k, k < 6 → vp_in (nI i + nI k) Ln) {M : gMem} (hI : INV M) (kk : ∀ M', INV M' → gV p l e s m args below meth c cells slots Q G 2300 (vLw (nI i)) [] M') (k : Nat) (hk : k < 128) : gV p l e s m args below meth c cells slots Q G 33 (vLw (nI i)) [.int (nI k)] M := by
  refine v_st okLH C (pc' := vTg k) (L' := vLw (nI i)) (S' := []) (M' := M) ?_ ?_
  · show gSw (nI k) (vLw (nI i)) [] M 2300 vTs = _
    rw [gSw_T, v_tg k hk]
  · match k, hk with
    | 0, _ => exact lc_0 C hin hI kk
    | 1, _ => exact lc_1 C hin hI kk
    | 2, _ => exact lc_2 C hin hI kk
    | 3, _ => exact lc_3 C hin hI kk
    | 4, _ => exact lc_4 C hin hI kk
    | 5, _ => exact lc_5 C hin hI kk
    | 6, _ => exact lc_6 C hin hI kk
    | 7, _ => exact lc_7 C hin hI kk
    | 8, _ => exact lc_8 C hin hI kk
    | 9, _ => exact lc_9 C hin hI kk
    | 10, _ => exact lc_10 C hin hI kk
    | 11, _ => exact lc_11 C hin hI kk
    | 12, _ => exact lc_12 C hin hI kk
    | 13, _ => exact lc_13 C hin hI kk
    | 14, _ => exact lc_14 C hin hI kk
    | 15, _ => exact lc_15 C hin hI kk
    | 16, _ => exact lc_16 C hin hI kk
    | 17, _ => exact lc_17 C hin hI kk
    | 18, _ => exact lc_18 C hin hI kk
    | 19, _ => exact lc_19 C hin hI kk
    | 20, _ => exact lc_20 C hin hI kk
    | 21, _ => exact lc_21 C hin hI kk
    | 22, _ => exact lc_22 C hin hI kk
    | 23, _ => exact lc_23 C hin hI kk
    | 24, _ => exact lc_24 C hin hI kk
    | 25, _ => exact lc_25 C hin hI kk
    | 26, _ => exact lc_26 C hin hI kk
    | 27, _ => exact lc_27 C hin hI kk
    | 28, _ => exact lc_28 C hin hI kk
    | 29, _ => exact lc_29 C hin hI kk
    | 30, _ => exact lc_30 C hin hI kk
    | 31, _ => exact lc_31 C hin hI kk
    | 32, _ => exact lc_32 C hin hI kk
    | 33, _ => exact lc_33 C hin hI kk
    | 34, _ => exact lc_34 C hin hI kk
    | 35, _ => exact lc_35 C hin hI kk
    | 36, _ => exact lc_36 C hin hI kk
    | 37, _ => exact lc_37 C hin hI kk
    | 38, _ => exact lc_38 C hin hI kk
    | 39, _ => exact lc_39 C hin hI kk
    | 40, _ => exact lc_40 C hin hI kk
    | 41, _ => exact lc_41 C hin hI kk
    | 42, _ => exact lc_42 C hin hI kk
    | 43, _ => exact lc_43 C hin hI kk
    | 44, _ => exact lc_44 C hin hI kk
    | 45, _ => exact lc_45 C hin hI kk
    | 46, _ => exact lc_46 C hin hI kk
    | 47, _ => exact lc_47 C hin hI kk
    | 48, _ => exact lc_48 C hin hI kk
    | 49, _ => exact lc_49 C hin hI kk
    | 50, _ => exact lc_50 C hin hI kk
    | 51, _ => exact lc_51 C hin hI kk
    | 52, _ => exact lc_52 C hin hI kk
    | 53, _ => exact lc_53 C hin hI kk
    | 54, _ => exact lc_54 C hin hI kk
    | 55, _ => exact lc_55 C hin hI kk
    | 56, _ => exact lc_56 C hin hI kk
    | 57, _ => exact lc_57 C hin hI kk
    | 58, _ => exact lc_58 C hin hI kk
    | 59, _ => exact lc_59 C hin hI kk
    | 60, _ => exact lc_60 C hin hI kk
    | 61, _ => exact lc_61 C hin hI kk
    | 62, _ => exact lc_62 C hin hI kk
    | 63, _ => exact lc_63 C hin hI kk
    | 64, _ => exact lc_64 C hin hI kk
    | 65, _ => exact lc_65 C hin hI kk
    | n + 66, _ =>
      have e : vTg (n + 66) = 2300 := if_neg (by omega)
      rw [e]; exact kk M hI
theorem v_loop (C : vCx p s m args c cells slots G b Ln xs) (hL : Ln ≤ 3072) (hend : ∀ (M : gMem) (j : Int32), gV p l e s m args below meth c cells slots Q G 2306 (vLw j) [] M) : ∀ (n i : Nat) (M : gMem), Ln ≤ i + n → i ≤ 3072 → INV M → gV p l e s m args below meth c cells slots Q G 18 (vLw (nI i)) [] M := by
  intro n
  induction n with
  | zero =>
    intro i M h1 h2 hI
    refine v_rn okLH C 2 (pc' := 20) (L' := vLw (nI i)) (S' := [.ref 960, .int (nI i)]) (M' := M) rfl ?_
    refine v_slen C (show decode code 20 = .ok (.arraylength, 1) by decide +kernel) ?_
    refine v_rn okLH C 2 (pc' := 24) (L' := vLw (nI i)) (S' := [.int (Int32.ofNat Ln - 6), .int (nI i)]) (M' := M) rfl ?_
    have e : (Int32.ofNat Ln - 6 : Int32) < nI i := by
      rw [Int32.lt_iff_toInt_lt, nI_toInt (show i < 2 ^ 31 by omega)]
      have h6 : (Int32.ofNat Ln - 6 : Int32).toInt = (Ln : Int) - 6 := pk_sub_toInt (b := 6) (by omega) (by omega)
      rw [h6]; omega
    refine v_st okLH C (pc' := 2306) (L' := vLw (nI i)) (S' := []) (M' := M) ?_ (hend M _)
    show (if (Int32.ofNat Ln - 6 : Int32) < nI i then some (2306, vLw (nI i), [], M) else some (27, vLw (nI i), [], M)) = _
    rw [if_pos e]
  | succ n ih =>
    intro i M h1 h2 hI
    refine v_rn okLH C 2 (pc' := 20) (L' := vLw (nI i)) (S' := [.ref 960, .int (nI i)]) (M' := M) rfl ?_
    refine v_slen C (show decode code 20 = .ok (.arraylength, 1) by decide +kernel) ?_
    refine v_rn okLH C 2 (pc' := 24) (L' := vLw (nI i)) (S' := [.int (Int32.ofNat Ln - 6), .int (nI i)]) (M' := M) rfl ?_
    have h6 : (Int32.ofNat Ln - 6 : Int32).toInt = (Ln : Int) - 6 := pk_sub_toInt (b := 6) (by omega) (by omega)
    have ei : (nI i).toInt = (i : Int) := nI_toInt (by omega)
    by_cases hc : Ln < i + 6
    · refine v_st okLH C (pc' := 2306) (L' := vLw (nI i)) (S' := []) (M' := M) ?_ (hend M _)
      show (if (Int32.ofNat Ln - 6 : Int32) < nI i then some (2306, vLw (nI i), [], M) else some (27, vLw (nI i), [], M)) = _
      rw [if_pos (by rw [Int32.lt_iff_toInt_lt, h6, ei]; omega)]
    · refine v_st okLH C (pc' := 27) (L' := vLw (nI i)) (S' := []) (M' := M) ?_ ?_
      · show (if (Int32.ofNat Ln - 6 : Int32) < nI i then some (2306, vLw (nI i), [], M) else some (27, vLw (nI i), [], M)) = _
        rw [if_neg (by rw [Int32.lt_iff_toInt_lt, h6, ei]; omega)]
      · have hin : ∀ k, k < 6 → vp_in (nI i + nI k) Ln := fun k hk => pk_in (i + k) Ln (by omega) (nI_add i k) (by omega)
        refine v_rn okLH C 2 (pc' := 29) (L' := vLw (nI i)) (S' := [.int (nI i), .ref 960]) (M' := M) rfl ?_
        refine v_sld C (pk_in i Ln (by omega) rfl (by omega)) (show decode code 29 = .ok (.iaload, 1) by decide +kernel) ?_
        refine v_rn okLH C 2 (pc' := 33) (L' := vLw (nI i)) (S' := [.int (xs (nI i).toNatClampNeg &&& 127)]) (M' := M) rfl ?_
        obtain ⟨k, hk, ek⟩ := pk_andE (xs (nI i).toNatClampNeg) (m := 127) 7 (by decide)
        rw [ek]
        refine v_case C hin hI (fun M' hI' => ?_) k hk
        refine v_rn okLH C 2 (pc' := 18) (L' := vLw (nI i + 6)) (S' := []) (M' := M') rfl ?_
        rw [show (nI i + 6 : Int32) = nI (i + 6) from nI_add i 6]
        exact ih (i + 6) M' (by omega) (by omega) hI'
end LLP
section LMK
variable {p : Program} {l : Launch} {e : Env} {R : Room} {s : State} {m : MethodId} {args : Array Value} {below : List Frame} {meth : Method} {c : Code} {D : va_G} {cA : Nat → ClassId} {A : Nat → Prop} {Q : State → Prop}
variable {own : String} {cc : ByteArray} {nL cells slots pc : Nat} {ls : Array Slot} {st : List Value} {X : va_W}
/-- new, dup, <init> (a public one's) -/
theorem k_nu {ci idx1 idx2 n mc ms : Nat} {fs : List Value} {Y' : gY} {wX : (Nat → ClassId) → (Nat → Nat) → va_W} (C : kCx own cc nL p s m args c D cA) (hA : ∀ q, s.heap.size ≤ q → A q) (hck : gCk ci) (hcl : Cond.classLink own idx1 (gC ci).1 ∈ gT) (hinst : Cond.instantiable (gC ci).1 (gNf ci) ∈ gT) (hini : Cond.initialized (gC ci).1 ∈ gT) (hfs : ∀ j, j < gNf ci → defaultValue (gTy ci j) = vp_V fs j)
    (hM : kMet Y' n mc ms (.inr (ci, fs)) wX) (hcal : gCal Y' 0) (hY : Y'.1.name = "<init>") (hret : Y'.2.2.2 = none) (hlink : Cond.methodLink own idx2 Y'.1 ∈ gT) (hin : Cond.instanceMethod Y'.1 ∈ gT) (hR : n + 1 ≤ R.frames ∧ 64 * (n + 1) ≤ R.locals) (hcells : cells + 1 + mc ≤ R.cells) (hslots : slots + gNf ci + ms ≤ R.slots) (hz : ls.size = nL) (hst : ((Value.ref 0 :: st).map fun v => v.category).sum ≤ 8)
    (d1 : decode cc pc = .ok (.new idx1, 3)) (d2 : decode cc (pc + 3) = .ok (.dup, 1)) (d3 : decode cc (pc + 4) = .ok (.invokespecial idx2, 3))
    (k : ∀ f : Nat → Nat, kW p l e R s m args below meth c D A Q (cells + 1 + mc) (slots + gNf ci + ms) (pc + 7) ls (.ref (f 0) :: st) (X ++ wX cA f)) : kW p l e R s m args below meth c D A Q cells slots pc ls st X := by
  obtain ⟨c1, c2, c3, c4⟩ := hcal
  intro H locs hP hD hS
  have hts := C.2.2.2.2.1
  refine va_new (ci := ci) (fs := fs) C.1 C.2.1 hts hck.2.1 (gTy ci) hck.2.2.1 C.2.2.2.1 (hts _ hcl) (hts _ hinst) (hts _ hini) C.2.2.2.2.2.1 hP hD hS hA hck.1 hfs (by omega) (by omega) d1 (fun q H1 hP1 hD1 hS1 => ?_)
  refine lv_dup C.1 C.2.1 d2 rfl ?_
  have hF : ∀ x, va_A [(q, .inr (ci, fs))] H1.size x → A x := fun x hx => by
    rcases hx with ⟨k2, e2, h⟩ | h
    · have hk2 : k2 < 1 := (List.getElem?_eq_some_iff.mp h).1
      refine hD1.2 (X.length + k2) (x, e2) ?_
      rw [List.getElem?_append_right (by omega), Nat.add_sub_cancel_left]; exact h
    · exact hA x (Nat.le_trans hS1.1 h)
  refine va_callv (va_runI (As := []) (rest := .ref q :: st) ⟨C.1, C.2.1, C.2.2.1, C.2.2.2.1, hts⟩ (hM l D cA q H1.size) (cwI (bytes := Y'.2.1) (maxL := Y'.2.2.1) 0 hts (gWd_good c1) (by unfold gWd; rw [hret]) rfl rfl (hts _ c2) (hts _ hlink) (hts _ hin) hY c4 ⟨hR.1, by show 8 + (Y'.2.2.1 + 11) + 64 * n ≤ _; omega⟩) ⟨kPre_blind, fun U hU hW => ⟨rfl, by rw [hU], by rw [hU]; exact k_last hP1, va_K.moved hW.alike C.2.2.2.2.2.1, k_lastD hD1, kZ_moved hW.alike (gNw_warm hW) C.2.2.2.2.2.2⟩⟩ rfl rfl hz rfl (lv_room (st := .ref q :: st) hst) d3 ⟨hcells, hslots⟩) hS1 (fun x _ h => hF x h) hF (fun f t H2 locs2 ht hvm hw hB hz1 hk1 hS2 => ?_)
  obtain ⟨hP2, hD2⟩ := hB
  rw [ht] at hP2
  obtain ⟨hP3, hD3⟩ := kj hP1 hD1 hk1 hF hP2 hD2
  have hk := k f H2 locs2 hP3 hD3 hS2
  rw [show f 0 = q from hw] at hk
  exact hk
theorem k_sa {k0 : Fin 4} {i x : Nat} {lv lv' : List (Nat × Value)} (C : kCx own cc nL p s m args c D cA) (h : lv_has ls nL lv) (d : decode cc pc = .ok (.astore_n k0, 1)) (hi : (k0 : Nat) = i) (hn : i < nL) (hlv : (i, Value.ref x) :: lv.filter (fun q => !(q.1 == i) && !(q.1 + 1 == i && q.2.category == 2)) = lv') (k : ∀ ls' : Array Slot, lv_has ls' nL lv' → kW p l e R s m args below meth c D A Q cells slots (pc + 1) ls' st X) : kW p l e R s m args below meth c D A Q cells slots pc ls (.ref x :: st) X :=
  fun H locs hP hD hS => lv_astore_n C.1 C.2.1 d hi h hn hlv (fun ls' h' => k ls' h' H locs hP hD hS)
end LMK
