/-! guards: ranges, numbers of things -/
theorem w_le (a b : Int32) : a.toInt64 ≤ b.toInt64 ↔ a ≤ b := by
  rw [Int64.le_iff_toInt_le, Int32.le_iff_toInt_le, Int32.toInt_toInt64, Int32.toInt_toInt64]
theorem w_lN {n : Nat} (h : n < 2 ^ 31) : (nI n).toInt64 = lN n := nI_l h
/-- a range over ints -/
def rg (lo hi : Nat) (a : Int32) : Bool := decide (nI lo ≤ a) && decide (a ≤ nI hi)
theorem rg_t {lo hi : Nat} {a : Int32} (h : rg lo hi a = true) (hl : lo < 2 ^ 31) (hh : hi < 2 ^ 31) : ∃ j, lo ≤ j ∧ j ≤ hi ∧ a = nI j := by
  unfold rg at h
  simp only [Bool.and_eq_true, decide_eq_true_eq] at h
  exact nI_rng hh h hl
theorem rg_nI {lo hi j : Nat} (hl : lo < 2 ^ 31) (hh : hi < 2 ^ 31) (hj : j < 2 ^ 31) : rg lo hi (nI j) = (decide (lo ≤ j) && decide (j ≤ hi)) := by
  unfold rg
  simp only [nI_leI hl hj, nI_leI hj hh]
theorem within_rg (a : Int32) (lo hi : Nat) : f_X11_within a (OfNat.ofNat lo) (OfNat.ofNat hi) = some (if rg lo hi a = true then 1 else 0) := by
  rw [within_eq]
  unfold rg
  simp only [Bool.and_eq_true, decide_eq_true_eq]
  rfl
/-- a number of one of n things -/
def ixb (n : Nat) (a : Int32) : Bool := !(decide (a < 0)) && decide (a < nI n)
theorem ix_t {n : Nat} {a : Int32} (hn : n < 2 ^ 31) (h : ixb n a = true) : ∃ j, j < n ∧ a = nI j := by
  unfold ixb at h
  simp only [Bool.and_eq_true, Bool.not_eq_true', decide_eq_false_iff_not, decide_eq_true_eq] at h
  obtain ⟨j, h1, rfl⟩ := nI_of h.1
  exact ⟨j, (nI_ltI h1 hn).mp h.2, rfl⟩
theorem ix_nI {n j : Nat} (hn : n < 2 ^ 31) (hj : j < 2 ^ 31) : ixb n (nI j) = decide (j < n) := by
  unfold ixb
  simp only [nI_ltI hj hn]
  simp [nI_pos hj]
theorem ix_cl {n : Nat} (a : Int32) {α : Type} (x y : α) : (if a < 0 then x else if nI n ≤ a then x else y) = if ixb n a = true then y else x := by
  unfold ixb
  have e3 : nI n ≤ a ↔ ¬ a < nI n := by
    rw [Int32.le_iff_toInt_le, Int32.lt_iff_toInt_lt]
    omega
  by_cases h1 : a < 0
  · simp [h1]
  · by_cases h2 : a < nI n
    · simp [h1, h2, e3]
    · simp [h1, h2, e3]
theorem bo_if (b : Bool) : z_bo (if b = true then (1 : Int32) else 0) = true := by cases b <;> rfl
theorem X4_hasPanel_eq {P : Nat} {w : ZW} (h : w.1 2 0 = nI P) (a : Int32) : f_X4_hasPanel w a = some (if ixb P a = true then 1 else 0) := by
  unfold f_X4_hasPanel
  rw [h, ix_cl]
  by_cases q : ixb P a = true <;> simp [q]
theorem X4_hasLock_eq {L : Nat} {w : ZW} (h : w.1 2 4 = nI L) (a : Int32) : f_X4_hasLock w a = some (if ixb L a = true then 1 else 0) := by
  unfold f_X4_hasLock
  rw [h, ix_cl]
  by_cases q : ixb L a = true <;> simp [q]
theorem if10 {α : Type} (b : Bool) (x y : α) : (if (if b = true then (1 : Int32) else 0) = 0 then x else y) = if b = true then y else x := by
  cases b <;> rfl
theorem X11_isBar_eq {P : Nat} {w : ZW} (h : w.1 2 0 = nI P) (a b : Int32) : f_X11_isBar w a b = some (if (ixb P a && rg 0 2 b) = true then 1 else 0) := by
  unfold f_X11_isBar
  rw [X4_hasPanel_eq h]
  simp only [Option.bind_some, if10]
  rw [within_rg]
  simp only [Option.bind_some, if10]
  cases ixb P a <;> cases rg 0 2 b <;> rfl
theorem X11_isLock_eq (a b c : Int32) : f_X11_isLock a b c = some (if (rg 1 999 a && rg 0 1 b && rg 0 19 c) = true then 1 else 0) := by
  unfold f_X11_isLock
  rw [within_rg, within_rg, within_rg]
  simp only [Option.bind_some, if10]
  cases rg 1 999 a <;> cases rg 0 1 b <;> cases rg 0 19 c <;> rfl
