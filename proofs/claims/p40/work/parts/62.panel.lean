/-! panel -/
/-- one number set -/
def sup (R : ST) (a j v : Nat) : ST := fun b k => if b = a ∧ k = j then v else R b k
theorem sup_n {R : ST} {a j v b k : Nat} (h : ¬ (b = a ∧ k = j)) : sup R a j v b k = R b k := if_neg h
theorem sup_e {R : ST} {a j v : Nat} : sup R a j v a j = v := if_pos ⟨rfl, rfl⟩
theorem upc {w : ZW} {a j b k : Nat} {x : Int32} (h : ¬ (b = a ∧ k = j)) : (z_upI w a j x).1 b k = w.1 b k := if_neg h
theorem upc_e {w : ZW} {a j : Nat} {x : Int32} : (z_upI w a j x).1 a j = x := if_pos ⟨rfl, rfl⟩
def aup (A : AST) (k : Nat) (S : ST) : AST := fun i => if i = k then S else A i
theorem X11_panel_eq (w : ZW) (a b c : Int32) : f_X11_panel w a b c = if (rg 1 99999 a && rg 1 99999 b && rg 1 99999 c) = true then f_X4_addPanel w a b c else some (-1, w) := by
  unfold f_X11_panel
  rw [within_rg, within_rg, within_rg]
  simp only [Option.bind_some, if10]
  cases rg 1 99999 a <;> cases rg 1 99999 b <;> cases rg 1 99999 c <;> simp
  all_goals try (cases f_X4_addPanel w a b c <;> rfl)
def panR (R : ST) (P x y z : Nat) : ST := sup (sup (sup (sup R 1 P x) 2 P y) 3 P z) 0 0 (P + 1)
theorem panR_1 {R : ST} {P x y z p : Nat} : panR R P x y z 1 p = if p = P then x else R 1 p := by simp [panR, sup]
theorem panR_2 {R : ST} {P x y z p : Nat} : panR R P x y z 2 p = if p = P then y else R 2 p := by simp [panR, sup]
theorem panR_3 {R : ST} {P x y z p : Nat} : panR R P x y z 3 p = if p = P then z else R 3 p := by simp [panR, sup]
theorem panR_o {R : ST} {P x y z a j : Nat} (h : 3 < a ∨ (a = 0 ∧ j ≠ 0)) : panR R P x y z a j = R a j := by
  unfold panR
  rw [sup_n (by omega), sup_n (by omega), sup_n (by omega), sup_n (by omega)]
def panC (w : ZW) (P x y z : Nat) : ZW := z_upI (z_upI (z_upI (z_upI w 3 P (nI x)) 4 P (nI y)) 5 P (nI z)) 2 0 (nI (P + 1))
def panM (w : ZW) (P x y z : Nat) : ZW := z_upI (z_upI (z_upI (z_upI (z_upI (z_upI (z_upI w 131 (3 * P) (nI x)) 131 (3 * P + 1) (nI y)) 131 (3 * P + 2) (nI z)) 149 P 0) 150 P 0) 151 P 0) 130 0 (nI (P + 1))
theorem add_eq {w : ZW} {P x y z : Nat} (h : w.1 2 0 = nI P) (hP : P ≤ 6) : f_X4_addPanel w (nI x) (nI y) (nI z) = if P < 6 then some (nI P, panC w P x y z) else some (-3, w) := by
  unfold f_X4_addPanel
  by_cases q : P < 6
  · simp only [h, show (6 : Int32) = nI 6 from rfl, nI_ltI (show P < 2 ^ 31 by omega) (show 6 < 2 ^ 31 by omega), q, if_true, z_in_t q (by omega), nI_clamp (show P < 2 ^ 31 by omega), z_let, upc (show ¬ (2 = 3 ∧ 0 = P) by omega), upc (show ¬ (2 = 4 ∧ 0 = P) by omega), upc (show ¬ (2 = 5 ∧ 0 = P) by omega), nI_1]
    rfl
  · simp only [h, show (6 : Int32) = nI 6 from rfl, nI_ltI (show P < 2 ^ 31 by omega) (show 6 < 2 ^ 31 by omega), q, if_false]
