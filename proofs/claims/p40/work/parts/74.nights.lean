theorem lt_nle (a b : Int32) : a < b ↔ ¬ b ≤ a := by
  rw [Int32.le_iff_toInt_le, Int32.lt_iff_toInt_lt]
  omega
theorem rg_if {α : Type} (lo hi : Nat) (a : Int32) (x y : α) : (if a < nI lo then x else if a ≤ nI hi then y else x) = if rg lo hi a = true then y else x := by
  unfold rg
  by_cases h1 : nI lo ≤ a
  · rw [if_neg (by rw [lt_nle]; exact fun h => h h1)]
    by_cases h2 : a ≤ nI hi
    · rw [if_pos h2, if_pos (by simp [h1, h2])]
    · rw [if_neg h2, if_neg (by simp [h2])]
  · rw [if_pos (by rw [lt_nle]; exact h1), if_neg (by simp [h1])]
/-- the bound of a term -/
def trm (k : Nat) : Nat := if k = 0 then 99 else if k = 1 then 9 else 5
theorem trm_lt (k : Nat) : trm k < 2 ^ 31 := by
  unfold trm
  split
  · omega
  · split <;> omega
theorem change_eq {w : ZW} {b p hi : Nat} (hp : p < 6) (a : Int32) : f_X3_change w b 6 (nI p) a (nI hi) = if rg 0 hi a = true then some (w.1 b p, z_upI w b p a) else some (-1, w) := by
  unfold f_X3_change
  rw [z_in_t hp (by omega), if_pos rfl, if_pos rfl, nI_clamp (show p < 2 ^ 31 by omega)]
  exact rg_if 0 hi a _ _
