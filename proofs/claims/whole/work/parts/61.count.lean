/-! count -/
def bs (b : Nat) : Nat → Nat
  | 0 => 0
  | k + 1 => bs b k + if b.testBit k = true then 1 else 0
theorem bs_sum (b : Nat) : ∀ k, bs b k = ((List.range k).map (fun i => if b.testBit i = true then 1 else 0)).sum
  | 0 => rfl
  | k + 1 => by
    unfold bs
    rw [bs_sum b k, List.range_succ, List.map_append, List.sum_append]
    simp
theorem bs_le (b : Nat) : ∀ k, bs b k ≤ k
  | 0 => Nat.le_refl _
  | k + 1 => by
    have := bs_le b k
    unfold bs
    split <;> omega
theorem bs_top {b L : Nat} (h : b < 2 ^ L) : ∀ m, bs b (L + m) = bs b L
  | 0 => rfl
  | m + 1 => by
    show bs b (L + m) + (if b.testBit (L + m) = true then 1 else 0) = _
    rw [bs_top h m, Nat.testBit_lt_two_pow (Nat.lt_of_lt_of_le h (Nat.pow_le_pow_right (by omega) (by omega)))]
    rfl
theorem bs_pc {b L : Nat} (hL : L ≤ 14) (h : b < 2 ^ L) : bs b L = pc14 b := by
  have := bs_top h (14 - L)
  rw [show L + (14 - L) = 14 by omega] at this
  rw [← this, bs_sum]
  exact (pcf_bits 14 b).symm
theorem countL {A : AST} {w : ZW} (hI : StI A) (hM : StM A w.1) (a : Int32) : z_iter (f_X12_count_L4 w a) z_fuel ((0 : Int32), (0 : Int32)) = some (nI (if a = 2 then pc14 (A 0 0 2) else pc14 (A 2 0 1))) := by
    have hL := hI.1.2.1
    have hG := hI.1.2.2.1
    have hP := hI.2.2.1.2.1
    have e0 := hM.1.2.1
    have key : ∀ i, nI (if a = 2 then bs (A 0 0 2) i else bs (A 2 0 1) i) + nI (if a = 2 then (if (A 0 0 2).testBit i = true then 1 else 0) else (if (A 2 0 1).testBit i = true then 1 else 0)) = nI (if a = 2 then bs (A 0 0 2) (i + 1) else bs (A 2 0 1) (i + 1)) := by
      intro i
      rw [nI_add]
      congr 1
      split <;> rfl
    rw [show ((0 : Int32), (0 : Int32)) = (nI (if a = 2 then bs (A 0 0 2) 0 else bs (A 2 0 1) 0), nI 0) by split <;> rfl, it_count (fun i => (nI (if a = 2 then bs (A 0 0 2) i else bs (A 2 0 1) i), nI i)) (A 0 0 1) (nI (if a = 2 then pc14 (A 0 0 2) else pc14 (A 2 0 1))) ?_ ?_ (zf (by omega))]
    · intro i hi
      have k := key i
      unfold f_X12_count_L4
      simp only [e0, nI_leI (show A 0 0 1 < 2 ^ 31 by omega) (show i < 2 ^ 31 by omega), show ¬ A 0 0 1 ≤ i by omega, if_false, z_in_t (show i < 14 by omega) (by omega), if_true, nI_clamp (show i < 2 ^ 31 by omega), (hM.1.2.2.2 i hi).2.2.2.2.2.2, hM.2.2.1.2.2.1 i hi, z_let, nI_1]
      by_cases q : a = 2
      · simp only [q, if_true] at k ⊢
        rw [k]
      · simp only [q, if_false] at k ⊢
        by_cases t : (A 2 0 1).testBit i = true
        · have h3 := (hI.2.2.1.2.2.2.2 i t).1
          simp only [t, if_true] at k ⊢
          rw [if_neg (show ¬ nI (A 2 3 i) ≤ (0 : Int32) from fun z => by
            have := (nI_leI (show A 2 3 i < 2 ^ 31 by omega) (show 0 < 2 ^ 31 by omega)).mp z
            omega), ← k, nI_add]
        · simp only [Bool.not_eq_true] at t
          simp only [t, Bool.false_eq_true, if_false] at k ⊢
          rw [if_pos (show nI 0 ≤ (0 : Int32) by decide), show (0 : Int32) = nI 0 from rfl, k]
    · unfold f_X12_count_L4
      rw [e0, if_pos (Int32.le_refl _), bs_pc hL hG, bs_pc hL hP]
theorem count5 {A : AST} {w : ZW} (hI : StI A) (hM : StM A w.1) : f_X12_count w 5 = some (nI (pc14 (A 2 0 1))) := by
  unfold f_X12_count
  rw [countL hI hM]
  simp
theorem sim_count {w : ZW} (h : Rel w) (a : Int32) : ∃ r, f_X11_count w a = some r ∧ f_X12_count w a = some r := by
  obtain ⟨A, hI, hC, hM, -⟩ := h
  have hL := hI.1.2.1
  have hG := hI.1.2.2.1
  have hP := hI.2.2.1.2.1
  have e0 := hM.1.2.1
  have eL := countL (w := w) hI hM a
  unfold f_X11_count f_X12_count
  rw [eL]
  simp only [Option.bind_some]
  rw [hC.1.2.2.1, hC.2.2.1.2.1, bitCount_eq (le14 hL hG), bitCount_eq (le14 hL hP), hC.1.1, hC.1.2.1, hC.2.1.1, hC.2.2.1.1, hM.1.1, e0, hM.2.1.1, hM.2.2.1.1]
  by_cases q0 : a = 0
  · exact ⟨nI (A 0 0 0), by simp [q0], by simp [q0]⟩
  by_cases q1 : a = 1
  · exact ⟨nI (A 0 0 1), by simp [q1], by simp [q1]⟩
  by_cases q2 : a = 2
  · exact ⟨nI (pc14 (A 0 0 2)), by simp [q2], by simp [q2]⟩
  by_cases q3 : a = 3
  · exact ⟨nI (A 1 0 0), by simp [q3], by simp [q3]⟩
  by_cases q4 : a = 4
  · exact ⟨nI (A 2 0 0), by simp [q4], by simp [q4]⟩
  by_cases q5 : a = 5
  · exact ⟨nI (pc14 (A 2 0 1)), by simp [q5], by simp [q5]⟩
  exact ⟨-1, by simp [q0, q1, q2, q3, q4, q5], by simp [q0, q1, q2, q3, q4, q5]⟩
