/-! classes -/
set_option maxRecDepth 100000 in
theorem iX0 : ∀ w ∈ u_ws RX0 TX0 5, w ∈ gT := fun w h => have g := goodIn_r (big := lw_tbl) _ [198, 200, 202, 204, 206] (by decide +kernel) (by decide +kernel)
  gT_in (g w h).1 (List.all_eq_true.mp (show (u_ws RX0 TX0 5).all goodWord = true by decide +kernel) w h)
set_option maxRecDepth 100000 in
theorem iX1 : ∀ w ∈ u_ws RX1 TX1 2, w ∈ gT := fun w h => have g := goodIn_r (big := lw_tbl) _ [462, 464] (by decide +kernel) (by decide +kernel)
  gT_in (g w h).1 (List.all_eq_true.mp (show (u_ws RX1 TX1 2).all goodWord = true by decide +kernel) w h)
set_option maxRecDepth 100000 in
theorem iX2 : ∀ w ∈ u_ws RX2 TX2 17, w ∈ gT := fun w h => have g := goodIn_r (big := lw_tbl) _ [417, 419, 421, 423, 425, 427, 429, 431, 433, 435, 437, 439, 441, 443, 445, 447, 449] (by decide +kernel) (by decide +kernel)
  gT_in (g w h).1 (List.all_eq_true.mp (show (u_ws RX2 TX2 17).all goodWord = true by decide +kernel) w h)
set_option maxRecDepth 100000 in
theorem iX3 : ∀ w ∈ u_ws RX3 TX3 4, w ∈ gT := fun w h => have g := goodIn_r (big := lw_tbl) _ [480, 482, 484, 486] (by decide +kernel) (by decide +kernel)
  gT_in (g w h).1 (List.all_eq_true.mp (show (u_ws RX3 TX3 4).all goodWord = true by decide +kernel) w h)
set_option maxRecDepth 100000 in
theorem iX4 : ∀ w ∈ u_ws RX4 TX4 3, w ∈ gT := fun w h => have g := goodIn_r (big := lw_tbl) _ [368, 370, 372] (by decide +kernel) (by decide +kernel)
  gT_in (g w h).1 (List.all_eq_true.mp (show (u_ws RX4 TX4 3).all goodWord = true by decide +kernel) w h)
set_option maxRecDepth 100000 in
theorem iX5 : ∀ w ∈ u_ws RX5 TX5 8, w ∈ gT := fun w h => have g := goodIn_r (big := lw_tbl) _ [336, 338, 340, 342, 344, 346, 348, 350] (by decide +kernel) (by decide +kernel)
  gT_in (g w h).1 (List.all_eq_true.mp (show (u_ws RX5 TX5 8).all goodWord = true by decide +kernel) w h)
set_option maxRecDepth 100000 in
theorem iX6 : ∀ w ∈ u_ws RX6 TX6 2, w ∈ gT := fun w h => have g := goodIn_r (big := lw_tbl) _ [168, 170] (by decide +kernel) (by decide +kernel)
  gT_in (g w h).1 (List.all_eq_true.mp (show (u_ws RX6 TX6 2).all goodWord = true by decide +kernel) w h)
set_option maxRecDepth 100000 in
theorem iX7 : ∀ w ∈ u_ws RX7 TX7 19, w ∈ gT := fun w h => have g := goodIn_r (big := lw_tbl) _ [285, 287, 289, 291, 293, 295, 297, 299, 301, 303, 305, 307, 309, 311, 313, 315, 317, 319, 321] (by decide +kernel) (by decide +kernel)
  gT_in (g w h).1 (List.all_eq_true.mp (show (u_ws RX7 TX7 19).all goodWord = true by decide +kernel) w h)
set_option maxRecDepth 100000 in
theorem iX8 : ∀ w ∈ u_ws RX8 TX8 8, w ∈ gT := fun w h => have g := goodIn_r (big := lw_tbl) _ [497, 499, 501, 503, 505, 507, 509, 511] (by decide +kernel) (by decide +kernel)
  gT_in (g w h).1 (List.all_eq_true.mp (show (u_ws RX8 TX8 8).all goodWord = true by decide +kernel) w h)
set_option maxRecDepth 100000 in
theorem iX9 : ∀ w ∈ u_ws RX9 TX9 49, w ∈ gT := fun w h => have g := goodIn_r (big := lw_tbl) _ [1351, 1353, 1355, 1357, 1359, 1361, 1363, 1365, 1367, 1369, 1371, 1373, 1375, 1377, 1379, 1381, 1383, 1385, 1387, 1389, 1391, 1393, 1395, 1397, 1399, 1401, 1403, 1405, 1407, 1409, 1411, 1413, 1415, 1417, 1419, 1421, 1423, 1425, 1427, 1429, 1431, 1433, 1435, 1437, 1439, 1441, 1443, 1445, 1447] (by decide +kernel) (by decide +kernel)
  gT_in (g w h).1 (List.all_eq_true.mp (show (u_ws RX9 TX9 49).all goodWord = true by decide +kernel) w h)
def gC (k : Nat) : vw_C := vwCl.getD k ("", TX0, 0)
/-- what is known of a class: its place, its words, its fields apart, its types -/
def gCk (k : Nat) : Prop := vwCl[k]? = some ((gC k).1, (gC k).2.1, gNf k) ∧ (∀ w ∈ u_ws (gC k).1 (gC k).2.1 (gNf k), w ∈ gT) ∧ (∀ j, j < gNf k → parseFieldDescriptor ((gC k).2.1 j).2.2.1 = some (gTy k j)) ∧ (∀ a, a < gNf k → ∀ b, b < gNf k → a ≠ b → ((gC k).2.1 a).2.1 ≠ ((gC k).2.1 b).2.1)
theorem ck_0 : gCk 0 := ⟨rfl, iX0, tyX0_ok, nmX0⟩
theorem ck_1 : gCk 1 := ⟨rfl, iX1, tyX1_ok, nmX1⟩
theorem ck_2 : gCk 2 := ⟨rfl, iX2, tyX2_ok, nmX2⟩
theorem ck_3 : gCk 3 := ⟨rfl, iX3, tyX3_ok, nmX3⟩
theorem ck_4 : gCk 4 := ⟨rfl, iX4, tyX4_ok, nmX4⟩
theorem ck_5 : gCk 5 := ⟨rfl, iX5, tyX5_ok, nmX5⟩
theorem ck_6 : gCk 6 := ⟨rfl, iX6, tyX6_ok, nmX6⟩
theorem ck_7 : gCk 7 := ⟨rfl, iX7, tyX7_ok, nmX7⟩
theorem ck_8 : gCk 8 := ⟨rfl, iX8, tyX8_ok, nmX8⟩
theorem ck_9 : gCk 9 := ⟨rfl, iX9, tyX9_ok, nmX9⟩
