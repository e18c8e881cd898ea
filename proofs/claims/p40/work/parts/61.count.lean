/-! count -/
def bs (b : Nat) : Nat → Nat
  | 0 => 0
  | k + 1 => bs b k + if b.testBit k = true then 1 else 0
theorem bs_sum (b : Nat) : ∀ k, bs b k = ((List.range k).map (fun i => if b.testBit i = true then 1 else 0)).sum
  | 0 => rfl
  | k + 1 => by
    unfold bs
    rw [bs_sum b k, List.range_succ, List.map_append, List.sum_append]
    simp
theorem bs_le (b : Nat) : ∀ k, bs b k ≤ k
  | 0 => Nat.le_refl _
  | k + 1 => by
    have := bs_le b k
    unfold bs
    split <;> omega
theorem bs_top {b L : Nat} (h : b < 2 ^ L) : ∀ m, bs b (L + m) = bs b L
  | 0 => rfl
  | m + 1 => by
    show bs b (L + m) + (if b.testBit (L + m) = true then 1 else 0) = _
    rw [bs_top h m, Nat.testBit_lt_two_pow (Nat.lt_of_lt_of_le h (Nat.pow_le_pow_right (by omega) (by omega)))]
    rfl
theorem bs_pc {b L : Nat} (hL : L ≤ 14) (h : b < 2 ^ L) : bs b L = pc14 b := by
  have := bs_top h (14 - L)
  rw [show L + (14 - L) = 14 by omega] at this
  rw [← this, bs_sum]
  exact (pcf_bits 14 b).symm
