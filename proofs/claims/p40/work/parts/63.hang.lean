/-! hang, hangOn -/
def lkR (R : ST) (L p q m x y z : Nat) : ST := fun a j => if a = 0 ∧ j = 1 then L + 1 else if j = L then (if a = 4 then x else if a = 5 then y else if a = 6 then z else if a = 7 then p else if a = 8 then q else if a = 9 then m else R a j) else R a j
theorem lkR_o {R : ST} {L p q m x y z a j : Nat} (h : ¬ (a = 0 ∧ j = 1)) (h2 : j ≠ L ∨ a < 4 ∨ 9 < a) : lkR R L p q m x y z a j = R a j := by
  unfold lkR
  rw [if_neg h]
  by_cases e : j = L
  · rw [if_pos e, if_neg (by omega), if_neg (by omega), if_neg (by omega), if_neg (by omega), if_neg (by omega), if_neg (by omega)]
  · rw [if_neg e]
theorem lkR_L {R : ST} {L p q m x y z : Nat} : lkR R L p q m x y z 0 1 = L + 1 := rfl
theorem lkR_n {R : ST} {L p q m x y z : Nat} : lkR R L p q m x y z 4 L = x ∧ lkR R L p q m x y z 5 L = y ∧ lkR R L p q m x y z 6 L = z ∧ lkR R L p q m x y z 7 L = p ∧ lkR R L p q m x y z 8 L = q ∧ lkR R L p q m x y z 9 L = m := by
  unfold lkR
  simp
def lkC (w : ZW) (L : Nat) (a1 a2 a3 a4 a5 : Int32) : ZW := z_upI (z_upI (z_upI (z_upI (z_upI (z_upI (z_upI w 9 L a1) 10 L a2) 11 L (-4)) 6 L a3) 7 L a4) 8 L a5) 2 4 (nI (L + 1))
def lkM (w : ZW) (L : Nat) (a1 a2 a3 a4 a5 a6 : Int32) : ZW := z_upI (z_upI (z_upI (z_upI (z_upI (z_upI (z_upI (z_upI (z_upI w 135 L a1) 136 L a2) 137 L a3) 132 L a4) 133 L a5) 134 L a6) 138 L 0) 144 L 0) 130 2 (nI (L + 1))
theorem addToBar_eq {w : ZW} {L : Nat} (h : w.1 2 4 = nI L) (hL : L ≤ 14) (a1 a2 a3 a4 a5 : Int32) : f_X4_addToBar w a1 a2 a3 a4 a5 = if L < 14 then some (nI L, lkC w L a1 a2 a3 a4 a5) else some (-3, w) := by
  unfold f_X4_addToBar
  simp only [h, show (14 : Int32) = nI 14 from rfl, nI_ltI (show L < 2 ^ 31 by omega) (show 14 < 2 ^ 31 by omega)]
  by_cases q : L < 14
  · simp only [q, if_true, z_in_t q (by omega), nI_clamp (show L < 2 ^ 31 by omega), z_let, h, fun w x => upc (w := w) (x := x) (show ¬ (2 = 9 ∧ 4 = L) by omega), fun w x => upc (w := w) (x := x) (show ¬ (2 = 10 ∧ 4 = L) by omega), fun w x => upc (w := w) (x := x) (show ¬ (2 = 11 ∧ 4 = L) by omega), fun w x => upc (w := w) (x := x) (show ¬ (2 = 6 ∧ 4 = L) by omega), fun w x => upc (w := w) (x := x) (show ¬ (2 = 7 ∧ 4 = L) by omega), fun w x => upc (w := w) (x := x) (show ¬ (2 = 8 ∧ 4 = L) by omega), nI_1]
    rfl
  · simp only [q, if_false]
theorem X11_hang_eq {w : ZW} {P L : Nat} (h : w.1 2 0 = nI P) (h2 : w.1 2 4 = nI L) (hL : L ≤ 14) (a1 a2 a3 a4 a5 : Int32) : f_X11_hang w a1 a2 a3 a4 a5 = if (ixb P a1 && rg 0 2 a2) = true then (if (rg 1 999 a3 && rg 0 1 a4 && rg 0 19 a5) = true then (if L < 14 then some (nI L, lkC w L a1 a2 a3 a4 a5) else some (-3, w)) else some (-1, w)) else some (-1, w) := by
  unfold f_X11_hang
  rw [X11_isBar_eq h, X11_isLock_eq]
  simp only [Option.bind_some, if10]
  by_cases q1 : (ixb P a1 && rg 0 2 a2) = true
  · by_cases q3 : (rg 1 999 a3 && rg 0 1 a4 && rg 0 19 a5) = true
    · rw [if_pos q1, if_pos q1, if_pos q3, if_pos q3, addToBar_eq h2 hL]
      by_cases q4 : L < 14
      · rw [if_pos q4]
        rfl
      · rw [if_neg q4]
        rfl
    · rw [if_pos q1, if_pos q1, if_neg q3, if_neg q3]
  · rw [if_neg q1, if_neg q1]
theorem rg_0 {hi : Nat} {a : Int32} (h : rg 0 hi a = true) (hh : hi < 2 ^ 31) : ∃ j, j ≤ hi ∧ a = nI j := by
  obtain ⟨j, -, h1, h2⟩ := rg_t h (by decide) hh
  exact ⟨j, h1, h2⟩
theorem n11 : (nI 1 = (1 : Int32)) ↔ True := ⟨fun _ => trivial, fun _ => rfl⟩
theorem n01 : (nI 0 = (1 : Int32)) ↔ False := ⟨fun h => by revert h; decide, fun h => h.elim⟩
