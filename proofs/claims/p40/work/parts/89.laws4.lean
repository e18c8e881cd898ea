theorem nI_nz {m : Nat} (h : m ≠ 0) (hm : m < 2 ^ 31) : ¬ nI m = 0 := by
  rw [show (0 : Int32) = nI 0 from rfl, nI_inj hm (by omega)]
  exact h
