/-! how many bits: the JDK's bitCount, the model's size -/
def allB (f : Nat → Bool) (lo : Nat) : Nat → Bool
  | 0 => f lo
  | k + 1 => allB f lo k && allB f (lo + 2 ^ k) k
theorem allB_spec {f : Nat → Bool} : ∀ (k lo : Nat), allB f lo k = true → ∀ i, lo ≤ i → i < lo + 2 ^ k → f i = true
  | 0, lo, h, i, h1, h2 => by
    have : i = lo := by simp at h2; omega
    subst this
    exact h
  | k + 1, lo, h, i, h1, h2 => by
    unfold allB at h
    rw [Bool.and_eq_true] at h
    rw [Nat.pow_succ] at h2
    by_cases q : i < lo + 2 ^ k
    · exact allB_spec k lo h.1 i h1 q
    · exact allB_spec k (lo + 2 ^ k) h.2 i (by omega) (by omega)
def swN (b : Nat) : Nat :=
  (fun y1 => (fun y2 => (fun y3 => (fun y4 => (y4 + y4 / 65536) &&& 63) (y3 + y3 / 256)) ((y2 + y2 / 16) &&& 252645135)) ((y1 &&& 858993459) + (y1 / 4 &&& 858993459))) (b - (b / 2 &&& 1431655765))
set_option maxRecDepth 100000 in
theorem swN_all : allB (fun b => swN b == pc14 b && (b == 0 || pc14 (b &&& (b - 1)) + 1 == pc14 b)) 0 14 = true := by decide +kernel
theorem swN_pc {b : Nat} (h : b < 2 ^ 14) : swN b = pc14 b := by
  have := allB_spec 14 0 swN_all b (Nat.zero_le b) (by omega)
  simp only [Bool.and_eq_true, beq_iff_eq] at this
  exact this.1
theorem pc_low {b : Nat} (h : b < 2 ^ 14) (h0 : b ≠ 0) : pc14 (b &&& (b - 1)) + 1 = pc14 b := by
  have := allB_spec 14 0 swN_all b (Nat.zero_le b) (by omega)
  simp only [Bool.and_eq_true, Bool.or_eq_true, beq_iff_eq] at this
  exact this.2.resolve_left h0
