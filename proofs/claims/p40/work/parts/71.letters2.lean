/-! letters: what is kept -/
theorem nI_xor (a b : Nat) : nI a ^^^ nI b = nI (a ^^^ b) := by
  apply Int32.toBitVec_inj.mp
  rw [Int32.toBitVec_xor, nI_bv, nI_bv, nI_bv]
  apply BitVec.eq_of_toNat_eq
  rw [BitVec.toNat_xor, BitVec.toNat_ofNat, BitVec.toNat_ofNat, BitVec.toNat_ofNat, Nat.xor_mod_two_pow]
def clrb (b l : Nat) : Nat := b &&& (2 ^ l ^^^ (2 ^ 32 - 1))
theorem clrb_bit {b l i : Nat} (hb : b < 2 ^ 14) : (clrb b l).testBit i = (b.testBit i && !(decide (l = i))) := by
  unfold clrb
  rw [Nat.testBit_and, Nat.testBit_xor, Nat.testBit_two_pow, Nat.testBit_two_pow_sub_one]
  by_cases h : i < 32
  · rw [decide_eq_true h, Bool.xor_true]
  · rw [Nat.testBit_lt_two_pow (Nat.lt_of_lt_of_le hb (Nat.pow_le_pow_right (by omega) (by omega)))]
    rfl
theorem clrb_lt {b l : Nat} (hb : b < 2 ^ 14) : clrb b l < 2 ^ 14 := Nat.lt_of_le_of_lt Nat.and_le_left hb
theorem pc_one : ∀ l, l < 14 → pc14 (2 ^ l) = 1 := by decide +kernel
theorem pc_clr {b l : Nat} (hb : b < 2 ^ 14) (hl : l < 14) : pc14 (clrb b l) + (if b.testBit l = true then 1 else 0) = pc14 b := by
  by_cases q : b.testBit l = true
  · rw [if_pos q]
    have e : b = clrb b l ||| 2 ^ l := by
      apply Nat.eq_of_testBit_eq
      intro i
      rw [Nat.testBit_or, clrb_bit hb, Nat.testBit_two_pow]
      by_cases e : l = i
      · subst e; simp [q]
      · simp [e]
    have := pc_disj (a := clrb b l) (b := 2 ^ l) (fun i h => by
      rw [clrb_bit hb] at h
      rw [Nat.testBit_two_pow]
      simp only [Bool.and_eq_true, Bool.not_eq_true', decide_eq_false_iff_not] at h
      simp [h.2])
    rw [← e, pc_one l hl] at this
    omega
  · rw [if_neg q]
    simp only [Bool.not_eq_true] at q
    have e : clrb b l = b := by
      apply Nat.eq_of_testBit_eq
      intro i
      rw [clrb_bit hb]
      by_cases e : l = i
      · subst e; simp [q]
      · simp [e]
    rw [e]
    omega
theorem pc_set {b l : Nat} (hl : l < 14) : pc14 (b ||| 2 ^ l) = pc14 b + (if b.testBit l = true then 0 else 1) := by
  by_cases q : b.testBit l = true
  · rw [if_pos q]
    have e : b ||| 2 ^ l = b := by
      apply Nat.eq_of_testBit_eq
      intro i
      rw [Nat.testBit_or, Nat.testBit_two_pow]
      by_cases e : l = i
      · subst e; simp [q]
      · simp [e]
    rw [e]
    omega
  · rw [if_neg q, pc_disj, pc_one l hl]
    intro i h
    rw [Nat.testBit_two_pow]
    by_cases e : l = i
    · subst e; exact absurd h q
    · simp [e]
theorem put_eq {w : ZW} {b l : Nat} (h : w.1 16 1 = nI b) (hb : b < 2 ^ 14) (hl : l < 14) (x y : Int64) : f_X2_putLetters w (nI l) x y = if pc14 (clrb b l) < 12 then some (1, z_upJ (z_upJ (z_upI w 16 1 (nI (b ||| 2 ^ l))) 18 l x) 19 l y) else some (0, w) := by
  have hc : pc14 (clrb b l) ≤ 14 := pcf_le 14 (clrb b l)
  unfold f_X2_putLetters
  rw [h, nI_shl1 (by omega), show (-1 : Int32) = nI (2 ^ 32 - 1) from rfl, nI_xor, nI_and, show b &&& (2 ^ l ^^^ (2 ^ 32 - 1)) = clrb b l from rfl, bitCount_eq (clrb_lt hb)]
  simp only [Option.bind_some]
  rw [show (12 : Int32) = nI 12 from rfl, ilt (by omega) (by omega), z_in_t hl (by omega), nI_or, nI_clamp (show l < 2 ^ 31 by omega)]
  simp only [z_let, if_true]
def ltR (S : ST) (l k1 k2 : Nat) (f1 f2 : Nat → Nat) : ST := fun a j => if a = 0 ∧ j = 1 then S 0 1 ||| 2 ^ l else if a = 3 ∧ j = l then k1 else if a = 4 ∧ j = l then k2 else if a = 5 ∧ 12 * l ≤ j ∧ j < 12 * l + 6 then f1 (j - 12 * l) else if a = 5 ∧ 12 * l + 6 ≤ j ∧ j < 12 * l + 12 then f2 (j - (12 * l + 6)) else S a j
theorem ltR_o {S : ST} {l k1 k2 a j : Nat} {f1 f2 : Nat → Nat} (h : ¬ ((a = 0 ∧ j = 1) ∨ (3 ≤ a ∧ a ≤ 4 ∧ j = l) ∨ (a = 5 ∧ 12 * l ≤ j ∧ j < 12 * l + 12))) : ltR S l k1 k2 f1 f2 a j = S a j := by
  unfold ltR
  rw [if_neg (by omega), if_neg (by omega), if_neg (by omega), if_neg (by omega), if_neg (by omega)]
theorem isL_ok {c : Nat} (h : isL true c = true) : c = 63 ∨ (65 ≤ c ∧ c ≤ 90) := by
  unfold isL at h
  simp only [Bool.or_eq_true, Bool.and_eq_true, decide_eq_true_eq] at h
  omega
theorem letters_cls (w : ZW) (a : Int32) (h : f_X4_hasLock w a = some 1) : f_X11_letters w a = (f_X10_readPair w).bind fun r2 : Int32 × ZW => if 0 ≤ r2.1 then (f_X2_putLetters (z_upI r2.2 120 0 0) a (r2.2.2 120 1) (r2.2.2 120 2)).bind (fun r4 : Int32 × ZW => if r4.1 = 0 then some (-3, r4.2) else some (r2.1, r4.2)) else some (r2.1, z_upI r2.2 120 0 0) := by
  unfold f_X11_letters
  rw [h]
  simp only [Option.bind_some, z_let]
  rw [if_neg i10]
  rfl
theorem lbadA {w w0 : ZW} {x a : Int32} (hl : f_X4_hasLock w a = some 1) (hn : ¬ (0 : Int32) ≤ x) (h1 : f_X10_readPair w = some (x, w0)) : f_X11_letters w a = some (x, z_upI w0 120 0 0) := by
  rw [letters_cls w a hl, h1]
  exact if_neg hn
