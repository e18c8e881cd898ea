/-! guards: ranges, numbers of things -/
theorem w_le (a b : Int32) : a.toInt64 ≤ b.toInt64 ↔ a ≤ b := by
  rw [Int64.le_iff_toInt_le, Int32.le_iff_toInt_le, Int32.toInt_toInt64, Int32.toInt_toInt64]
theorem w_lN {n : Nat} (h : n < 2 ^ 31) : (nI n).toInt64 = lN n := nI_l h
theorem in_eq (x lo hi : Int64) : f_X12_in x lo hi = some (if lo ≤ x ∧ x ≤ hi then 1 else 0) := by
  unfold f_X12_in
  simp only [lg_cmp_lt, lg_cmp_gt]
  by_cases h1 : x < lo
  · rw [if_pos h1, if_neg (fun h => by
      have := Int64.lt_iff_toInt_lt.mp h1
      have := Int64.le_iff_toInt_le.mp h.1
      omega)]
  · by_cases h2 : hi < x
    · rw [if_neg h1, if_pos h2, if_neg (fun h => by
        have := Int64.lt_iff_toInt_lt.mp h2
        have := Int64.le_iff_toInt_le.mp h.2
        omega)]
    · rw [if_neg h1, if_neg h2, if_pos ⟨by
        have : ¬ x.toInt < lo.toInt := fun h => h1 (Int64.lt_iff_toInt_lt.mpr h)
        exact Int64.le_iff_toInt_le.mpr (by omega), by
        have : ¬ hi.toInt < x.toInt := fun h => h2 (Int64.lt_iff_toInt_lt.mpr h)
        exact Int64.le_iff_toInt_le.mpr (by omega)⟩]
/-- a range over ints -/
def rg (lo hi : Nat) (a : Int32) : Bool := decide (nI lo ≤ a) && decide (a ≤ nI hi)
theorem rg_t {lo hi : Nat} {a : Int32} (h : rg lo hi a = true) (hl : lo < 2 ^ 31) (hh : hi < 2 ^ 31) : ∃ j, lo ≤ j ∧ j ≤ hi ∧ a = nI j := by
  unfold rg at h
  simp only [Bool.and_eq_true, decide_eq_true_eq] at h
  exact nI_rng hh h hl
theorem rg_nI {lo hi j : Nat} (hl : lo < 2 ^ 31) (hh : hi < 2 ^ 31) (hj : j < 2 ^ 31) : rg lo hi (nI j) = (decide (lo ≤ j) && decide (j ≤ hi)) := by
  unfold rg
  simp only [nI_leI hl hj, nI_leI hj hh]
theorem within_rg (a : Int32) (lo hi : Nat) : f_X11_within a (OfNat.ofNat lo) (OfNat.ofNat hi) = some (if rg lo hi a = true then 1 else 0) := by
  rw [within_eq]
  unfold rg
  simp only [Bool.and_eq_true, decide_eq_true_eq]
  rfl
theorem in_rg (a : Int32) (lo hi : Nat) (hl : lo < 2 ^ 31) (hh : hi < 2 ^ 31) : f_X12_in a.toInt64 (OfNat.ofNat lo) (OfNat.ofNat hi) = some (if rg lo hi a = true then 1 else 0) := by
  rw [in_eq]
  have e1 : (OfNat.ofNat lo : Int64) = (nI lo).toInt64 := (w_lN hl).symm
  have e2 : (OfNat.ofNat hi : Int64) = (nI hi).toInt64 := (w_lN hh).symm
  unfold rg
  rw [e1, e2]
  simp only [w_le, Bool.and_eq_true, decide_eq_true_eq]
/-- a number of one of n things -/
def ixb (n : Nat) (a : Int32) : Bool := !(decide (a < 0)) && decide (a < nI n)
theorem ix_t {n : Nat} {a : Int32} (hn : n < 2 ^ 31) (h : ixb n a = true) : ∃ j, j < n ∧ a = nI j := by
  unfold ixb at h
  simp only [Bool.and_eq_true, Bool.not_eq_true', decide_eq_false_iff_not, decide_eq_true_eq] at h
  obtain ⟨j, h1, rfl⟩ := nI_of h.1
  exact ⟨j, (nI_ltI h1 hn).mp h.2, rfl⟩
theorem ix_nI {n j : Nat} (hn : n < 2 ^ 31) (hj : j < 2 ^ 31) : ixb n (nI j) = decide (j < n) := by
  unfold ixb
  simp only [nI_ltI hj hn]
  simp [nI_pos hj]
theorem ix_in {n : Nat} (hn : n < 2 ^ 30) (a : Int32) : f_X12_in a.toInt64 (0 : Int64) ((nI n - 1).toInt64) = some (if ixb n a = true then 1 else 0) := by
  rw [in_eq]
  have e1 : (0 : Int64) = (0 : Int32).toInt64 := by decide
  rw [e1]
  unfold ixb
  have e2 : a ≤ nI n - 1 ↔ a < nI n := by
    rw [Int32.le_iff_toInt_le, Int32.lt_iff_toInt_lt, nI_toInt (by omega), show (1 : Int32) = nI 1 from rfl, pk_sub_toInt hn (by omega)]
    omega
  have e3 : (0 : Int32) ≤ a ↔ ¬ a < 0 := by
    rw [Int32.le_iff_toInt_le, Int32.lt_iff_toInt_lt]
    omega
  simp only [w_le, e2, e3, Bool.and_eq_true, Bool.not_eq_true', decide_eq_false_iff_not, decide_eq_true_eq]
theorem ix_cl {n : Nat} (a : Int32) {α : Type} (x y : α) : (if a < 0 then x else if nI n ≤ a then x else y) = if ixb n a = true then y else x := by
  unfold ixb
  have e3 : nI n ≤ a ↔ ¬ a < nI n := by
    rw [Int32.le_iff_toInt_le, Int32.lt_iff_toInt_lt]
    omega
  by_cases h1 : a < 0
  · simp [h1]
  · by_cases h2 : a < nI n
    · simp [h1, h2, e3]
    · simp [h1, h2, e3]
theorem bo_if (b : Bool) : z_bo (if b = true then (1 : Int32) else 0) = true := by cases b <;> rfl
theorem X4_hasPanel_eq {P : Nat} {w : ZW} (h : w.1 2 0 = nI P) (a : Int32) : f_X4_hasPanel w a = some (if ixb P a = true then 1 else 0) := by
  unfold f_X4_hasPanel
  rw [h, ix_cl]
  by_cases q : ixb P a = true <;> simp [q]
theorem X4_hasLock_eq {L : Nat} {w : ZW} (h : w.1 2 4 = nI L) (a : Int32) : f_X4_hasLock w a = some (if ixb L a = true then 1 else 0) := by
  unfold f_X4_hasLock
  rw [h, ix_cl]
  by_cases q : ixb L a = true <;> simp [q]
theorem X12_isPanel_eq {P : Nat} {w : ZW} (hP : P < 2 ^ 30) (h : w.1 130 0 = nI P) (a : Int32) : f_X12_isPanel w a = some (if ixb P a = true then 1 else 0) := by
  unfold f_X12_isPanel
  rw [h, ix_in hP]
  simp only [Option.bind_some, bo_if, if_true]
theorem X12_isLock_eq {L : Nat} {w : ZW} (hL : L < 2 ^ 30) (h : w.1 130 2 = nI L) (a : Int32) : f_X12_isLock w a = some (if ixb L a = true then 1 else 0) := by
  unfold f_X12_isLock
  rw [h, ix_in hL]
  simp only [Option.bind_some, bo_if, if_true]
theorem if10 {α : Type} (b : Bool) (x y : α) : (if (if b = true then (1 : Int32) else 0) = 0 then x else y) = if b = true then y else x := by
  cases b <;> rfl
theorem X11_isBar_eq {P : Nat} {w : ZW} (h : w.1 2 0 = nI P) (a b : Int32) : f_X11_isBar w a b = some (if (ixb P a && rg 0 2 b) = true then 1 else 0) := by
  unfold f_X11_isBar
  rw [X4_hasPanel_eq h]
  simp only [Option.bind_some, if10]
  rw [within_rg]
  simp only [Option.bind_some, if10]
  cases ixb P a <;> cases rg 0 2 b <;> rfl
theorem X11_isLock_eq (a b c : Int32) : f_X11_isLock a b c = some (if (rg 1 999 a && rg 0 1 b && rg 0 19 c) = true then 1 else 0) := by
  unfold f_X11_isLock
  rw [within_rg, within_rg, within_rg]
  simp only [Option.bind_some, if10]
  cases rg 1 999 a <;> cases rg 0 1 b <;> cases rg 0 19 c <;> rfl
theorem X12_isTold_eq (a b c : Int32) : f_X12_isTold a b c = some (if (rg 1 999 a && rg 0 1 b && rg 0 19 c) = true then 1 else 0) := by
  unfold f_X12_isTold
  rw [in_rg _ _ _ (by decide) (by decide), in_rg _ _ _ (by decide) (by decide), in_rg _ _ _ (by decide) (by decide)]
  simp only [Option.bind_some, if10]
  cases rg 1 999 a <;> cases rg 0 1 b <;> cases rg 0 19 c <;> rfl
