/-! bits, and the smallest methods -/
def gB (s j : Int32) : Int32 := if (s >>> (j &&& 31)) &&& 1 = 0 then 0 else 1
theorem R_has (G : gG) (M : gMem) (s j : Int32) : gRun G YX8_has 0 [.int s, .int j] M (fun r N => r = some (.int (gB s j)) ∧ N = M) := by
  refine gRun_of (by decide +kernel) (by decide) (fun d _ => ?_)
  repeat refine go_st okX8_has rfl ?_
  refine go_br okX8_has rfl (fun h => ?_) (fun h => ?_)
  · repeat refine go_st okX8_has rfl ?_
    exact go_zret (reX8_has _ (by decide)) rfl (Or.inl rfl) ⟨by rw [gB, if_pos h], rfl⟩
  · repeat refine go_st okX8_has rfl ?_
    exact go_zret (reX8_has _ (by decide)) rfl (Or.inr rfl) ⟨by rw [gB, if_neg h], rfl⟩
theorem R_allOf (G : gG) (M : gMem) (n : Int32) : gRun G YX8_allOf 0 [.int n] M (fun r N => r = some (.int ((1 : Int32) <<< (n &&& 31) - 1)) ∧ N = M) := by
  refine gRun_of (by decide +kernel) (by decide) (fun d _ => ?_)
  repeat refine go_st okX8_allOf rfl ?_
  exact go_iret (reX8_allOf _ (by decide)) rfl ⟨rfl, rfl⟩
