/-! takeOver, both ways -/
def fS (x : Nat) : Nat := x - 55
def fR (x : Nat) : Nat := x + 55
def tSX4 (b k : Nat) : Prop := (b = 57 ∧ (k = 0 ∨ k = 4 ∨ k = 5)) ∨ (58 ≤ b ∧ b ≤ 60 ∧ k < 6) ∨ (61 ≤ b ∧ b ≤ 66 ∧ k < 14)
theorem takeSX4 (w : ZW) : ∃ r, f_X4_takeOver_57_2 w = some r ∧ Cp fS tSX4 w.1 r.1 ∧ r.2 = w.2 := by
  unfold f_X4_takeOver_57_2
  simp only [tn0, tn6, tn8, tn12, tn14]
  have c0 : Cp fS (fun _ k => k + 1 = 0) w.1 w.1 := cp0
  have c1 := cpU (w1 := w) 57 2 0 c0 rfl (by omega)
  rw [zl]
  have l1 : (z_upI w 57 0 (w.1 2 0)).2 = w.2 := rfl
  generalize z_upI w 57 0 (w.1 2 0) = w1 at c1 l1 ⊢
  replace c1 := cpM (T := fun b k => (b = 57 ∧ (k = 0))) c1 (fun b k => by omega)
  have c2 := cpR (w1 := w1) 58 3 6 c1 rfl (fun k _ => by omega)
  rw [if_pos cin6, zl]
  have l2 : (z_cpI w1 3 58 0 0 6).2 = w.2 := l1
  generalize z_cpI w1 3 58 0 0 6 = w2 at c2 l2 ⊢
  replace c2 := cpM (T := fun b k => (b = 57 ∧ (k = 0)) ∨ (b = 58 ∧ k < 6)) c2 (fun b k => by omega)
  have c3 := cpR (w1 := w2) 59 4 6 c2 rfl (fun k _ => by omega)
  rw [if_pos cin6, zl]
  have l3 : (z_cpI w2 4 59 0 0 6).2 = w.2 := l2
  generalize z_cpI w2 4 59 0 0 6 = w3 at c3 l3 ⊢
  replace c3 := cpM (T := fun b k => (b = 57 ∧ (k = 0)) ∨ (58 ≤ b ∧ b ≤ 59 ∧ k < 6)) c3 (fun b k => by omega)
  have c4 := cpR (w1 := w3) 60 5 6 c3 rfl (fun k _ => by omega)
  rw [if_pos cin6, zl]
  have l4 : (z_cpI w3 5 60 0 0 6).2 = w.2 := l3
  generalize z_cpI w3 5 60 0 0 6 = w4 at c4 l4 ⊢
  replace c4 := cpM (T := fun b k => (b = 57 ∧ (k = 0)) ∨ (58 ≤ b ∧ b ≤ 60 ∧ k < 6)) c4 (fun b k => by omega)
  have c5 := cpU (w1 := w4) 57 2 4 c4 rfl (by omega)
  rw [zl]
  have l5 : (z_upI w4 57 4 (w4.1 2 4)).2 = w.2 := l4
  generalize z_upI w4 57 4 (w4.1 2 4) = w5 at c5 l5 ⊢
  replace c5 := cpM (T := fun b k => (b = 57 ∧ (k = 0 ∨ k = 4)) ∨ (58 ≤ b ∧ b ≤ 60 ∧ k < 6)) c5 (fun b k => by omega)
  have c6 := cpU (w1 := w5) 57 2 5 c5 rfl (by omega)
  rw [zl]
  have l6 : (z_upI w5 57 5 (w5.1 2 5)).2 = w.2 := l5
  generalize z_upI w5 57 5 (w5.1 2 5) = w6 at c6 l6 ⊢
  replace c6 := cpM (T := fun b k => (b = 57 ∧ (k = 0 ∨ k = 4 ∨ k = 5)) ∨ (58 ≤ b ∧ b ≤ 60 ∧ k < 6)) c6 (fun b k => by omega)
  have c7 := cpR (w1 := w6) 61 6 14 c6 rfl (fun k _ => by omega)
  rw [if_pos cin14, zl]
  have l7 : (z_cpI w6 6 61 0 0 14).2 = w.2 := l6
  generalize z_cpI w6 6 61 0 0 14 = w7 at c7 l7 ⊢
  replace c7 := cpM (T := fun b k => (b = 57 ∧ (k = 0 ∨ k = 4 ∨ k = 5)) ∨ (58 ≤ b ∧ b ≤ 60 ∧ k < 6) ∨ (b = 61 ∧ k < 14)) c7 (fun b k => by omega)
  have c8 := cpR (w1 := w7) 62 7 14 c7 rfl (fun k _ => by omega)
  rw [if_pos cin14, zl]
  have l8 : (z_cpI w7 7 62 0 0 14).2 = w.2 := l7
  generalize z_cpI w7 7 62 0 0 14 = w8 at c8 l8 ⊢
  replace c8 := cpM (T := fun b k => (b = 57 ∧ (k = 0 ∨ k = 4 ∨ k = 5)) ∨ (58 ≤ b ∧ b ≤ 60 ∧ k < 6) ∨ (61 ≤ b ∧ b ≤ 62 ∧ k < 14)) c8 (fun b k => by omega)
  have c9 := cpR (w1 := w8) 63 8 14 c8 rfl (fun k _ => by omega)
  rw [if_pos cin14, zl]
  have l9 : (z_cpI w8 8 63 0 0 14).2 = w.2 := l8
  generalize z_cpI w8 8 63 0 0 14 = w9 at c9 l9 ⊢
  replace c9 := cpM (T := fun b k => (b = 57 ∧ (k = 0 ∨ k = 4 ∨ k = 5)) ∨ (58 ≤ b ∧ b ≤ 60 ∧ k < 6) ∨ (61 ≤ b ∧ b ≤ 63 ∧ k < 14)) c9 (fun b k => by omega)
  have c10 := cpR (w1 := w9) 64 9 14 c9 rfl (fun k _ => by omega)
  rw [if_pos cin14, zl]
  have l10 : (z_cpI w9 9 64 0 0 14).2 = w.2 := l9
  generalize z_cpI w9 9 64 0 0 14 = w10 at c10 l10 ⊢
  replace c10 := cpM (T := fun b k => (b = 57 ∧ (k = 0 ∨ k = 4 ∨ k = 5)) ∨ (58 ≤ b ∧ b ≤ 60 ∧ k < 6) ∨ (61 ≤ b ∧ b ≤ 64 ∧ k < 14)) c10 (fun b k => by omega)
  have c11 := cpR (w1 := w10) 65 10 14 c10 rfl (fun k _ => by omega)
  rw [if_pos cin14, zl]
  have l11 : (z_cpI w10 10 65 0 0 14).2 = w.2 := l10
  generalize z_cpI w10 10 65 0 0 14 = w11 at c11 l11 ⊢
  replace c11 := cpM (T := fun b k => (b = 57 ∧ (k = 0 ∨ k = 4 ∨ k = 5)) ∨ (58 ≤ b ∧ b ≤ 60 ∧ k < 6) ∨ (61 ≤ b ∧ b ≤ 65 ∧ k < 14)) c11 (fun b k => by omega)
  have c12 := cpR (w1 := w11) 66 11 14 c11 rfl (fun k _ => by omega)
  rw [if_pos cin14, zl]
  have l12 : (z_cpI w11 11 66 0 0 14).2 = w.2 := l11
  generalize z_cpI w11 11 66 0 0 14 = w12 at c12 l12 ⊢
  replace c12 := cpM (T := fun b k => (b = 57 ∧ (k = 0 ∨ k = 4 ∨ k = 5)) ∨ (58 ≤ b ∧ b ≤ 60 ∧ k < 6) ∨ (61 ≤ b ∧ b ≤ 66 ∧ k < 14)) c12 (fun b k => by omega)
  exact ⟨_, rfl, c12, l12⟩
def tSX8 (b k : Nat) : Prop := (b = 67 ∧ (k = 0)) ∨ (68 ≤ b ∧ b ≤ 70 ∧ k < 6)
theorem takeSX8 (w : ZW) : ∃ r, f_X8_takeOver_67_12 w = some r ∧ Cp fS tSX8 w.1 r.1 ∧ r.2 = w.2 := by
  unfold f_X8_takeOver_67_12
  simp only [tn0, tn6, tn8, tn12, tn14]
  have c0 : Cp fS (fun _ k => k + 1 = 0) w.1 w.1 := cp0
  have c1 := cpU (w1 := w) 67 12 0 c0 rfl (by omega)
  rw [zl]
  have l1 : (z_upI w 67 0 (w.1 12 0)).2 = w.2 := rfl
  generalize z_upI w 67 0 (w.1 12 0) = w1 at c1 l1 ⊢
  replace c1 := cpM (T := fun b k => (b = 67 ∧ (k = 0))) c1 (fun b k => by omega)
  have c2 := cpR (w1 := w1) 68 13 6 c1 rfl (fun k _ => by omega)
  rw [if_pos cin6, zl]
  have l2 : (z_cpI w1 13 68 0 0 6).2 = w.2 := l1
  generalize z_cpI w1 13 68 0 0 6 = w2 at c2 l2 ⊢
  replace c2 := cpM (T := fun b k => (b = 67 ∧ (k = 0)) ∨ (b = 68 ∧ k < 6)) c2 (fun b k => by omega)
  have c3 := cpR (w1 := w2) 69 14 6 c2 rfl (fun k _ => by omega)
  rw [if_pos cin6, zl]
  have l3 : (z_cpI w2 14 69 0 0 6).2 = w.2 := l2
  generalize z_cpI w2 14 69 0 0 6 = w3 at c3 l3 ⊢
  replace c3 := cpM (T := fun b k => (b = 67 ∧ (k = 0)) ∨ (68 ≤ b ∧ b ≤ 69 ∧ k < 6)) c3 (fun b k => by omega)
  have c4 := cpR (w1 := w3) 70 15 6 c3 rfl (fun k _ => by omega)
  rw [if_pos cin6, zl]
  have l4 : (z_cpI w3 15 70 0 0 6).2 = w.2 := l3
  generalize z_cpI w3 15 70 0 0 6 = w4 at c4 l4 ⊢
  replace c4 := cpM (T := fun b k => (b = 67 ∧ (k = 0)) ∨ (68 ≤ b ∧ b ≤ 70 ∧ k < 6)) c4 (fun b k => by omega)
  exact ⟨_, rfl, c4, l4⟩
def tSX2 (b k : Nat) : Prop := (b = 71 ∧ (k = 0 ∨ k = 1))
def tlSX2 (b k : Nat) : Prop := (b = 72 ∧ k < 8) ∨ (b = 73 ∧ k < 14) ∨ (b = 74 ∧ k < 14)
theorem takeSX2 (w : ZW) : ∃ r, f_X2_takeOver_71_16 w = some r ∧ Cp fS tSX2 w.1 r.1 ∧ Cp fS tlSX2 w.2 r.2 := by
  unfold f_X2_takeOver_71_16
  simp only [tn0, tn6, tn8, tn12, tn14]
  have c0 : Cp fS (fun _ k => k + 1 = 0) w.1 w.1 := cp0
  have j0 : Cp fS (fun _ k => k + 1 = 0) w.2 w.2 := cp0
  have c1 := cpU (w1 := w) 71 16 0 c0 rfl (by omega)
  rw [zl]
  have j1 : Cp fS (fun _ k => k + 1 = 0) w.2 (z_upI w 71 0 (w.1 16 0)).2 := j0
  generalize z_upI w 71 0 (w.1 16 0) = w1 at c1 j1 ⊢
  replace c1 := cpM (T := fun b k => (b = 71 ∧ (k = 0))) c1 (fun b k => by omega)
  have c2 := cpU (w1 := w1) 71 16 1 c1 rfl (by omega)
  rw [zl]
  have j2 : Cp fS (fun _ k => k + 1 = 0) w.2 (z_upI w1 71 1 (w1.1 16 1)).2 := j1
  generalize z_upI w1 71 1 (w1.1 16 1) = w2 at c2 j2 ⊢
  replace c2 := cpM (T := fun b k => (b = 71 ∧ (k = 0 ∨ k = 1))) c2 (fun b k => by omega)
  have j3 := cpJ (w1 := w2) 72 17 8 j2 rfl (fun k _ => by omega)
  have c3 : Cp fS (fun b k => (b = 71 ∧ (k = 0 ∨ k = 1))) w.1 (z_cpJ w2 17 72 0 0 8).1 := c2
  rw [if_pos cin8, zl]
  generalize z_cpJ w2 17 72 0 0 8 = w3 at c3 j3 ⊢
  replace j3 := cpM (T := fun b k => (b = 72 ∧ k < 8)) j3 (fun b k => by omega)
  have j4 := cpJ (w1 := w3) 73 18 14 j3 rfl (fun k _ => by omega)
  have c4 : Cp fS (fun b k => (b = 71 ∧ (k = 0 ∨ k = 1))) w.1 (z_cpJ w3 18 73 0 0 14).1 := c3
  rw [if_pos cin14, zl]
  generalize z_cpJ w3 18 73 0 0 14 = w4 at c4 j4 ⊢
  replace j4 := cpM (T := fun b k => (b = 72 ∧ k < 8) ∨ (b = 73 ∧ k < 14)) j4 (fun b k => by omega)
  have j5 := cpJ (w1 := w4) 74 19 14 j4 rfl (fun k _ => by omega)
  have c5 : Cp fS (fun b k => (b = 71 ∧ (k = 0 ∨ k = 1))) w.1 (z_cpJ w4 19 74 0 0 14).1 := c4
  rw [if_pos cin14, zl]
  generalize z_cpJ w4 19 74 0 0 14 = w5 at c5 j5 ⊢
  replace j5 := cpM (T := fun b k => (b = 72 ∧ k < 8) ∨ (b = 73 ∧ k < 14) ∨ (b = 74 ∧ k < 14)) j5 (fun b k => by omega)
  exact ⟨_, rfl, c5, j5⟩
def tSX3 (b k : Nat) : Prop := (b = 75 ∧ (k = 0)) ∨ (76 ≤ b ∧ b ≤ 78 ∧ k < 6)
theorem takeSX3 (w : ZW) : ∃ r, f_X3_takeOver_75_20 w = some r ∧ Cp fS tSX3 w.1 r.1 ∧ r.2 = w.2 := by
  unfold f_X3_takeOver_75_20
  simp only [tn0, tn6, tn8, tn12, tn14]
  have c0 : Cp fS (fun _ k => k + 1 = 0) w.1 w.1 := cp0
  have c1 := cpU (w1 := w) 75 20 0 c0 rfl (by omega)
  rw [zl]
  have l1 : (z_upI w 75 0 (w.1 20 0)).2 = w.2 := rfl
  generalize z_upI w 75 0 (w.1 20 0) = w1 at c1 l1 ⊢
  replace c1 := cpM (T := fun b k => (b = 75 ∧ (k = 0))) c1 (fun b k => by omega)
  have c2 := cpR (w1 := w1) 76 21 6 c1 rfl (fun k _ => by omega)
  rw [if_pos cin6, zl]
  have l2 : (z_cpI w1 21 76 0 0 6).2 = w.2 := l1
  generalize z_cpI w1 21 76 0 0 6 = w2 at c2 l2 ⊢
  replace c2 := cpM (T := fun b k => (b = 75 ∧ (k = 0)) ∨ (b = 76 ∧ k < 6)) c2 (fun b k => by omega)
  have c3 := cpR (w1 := w2) 77 22 6 c2 rfl (fun k _ => by omega)
  rw [if_pos cin6, zl]
  have l3 : (z_cpI w2 22 77 0 0 6).2 = w.2 := l2
  generalize z_cpI w2 22 77 0 0 6 = w3 at c3 l3 ⊢
  replace c3 := cpM (T := fun b k => (b = 75 ∧ (k = 0)) ∨ (76 ≤ b ∧ b ≤ 77 ∧ k < 6)) c3 (fun b k => by omega)
  have c4 := cpR (w1 := w3) 78 23 6 c3 rfl (fun k _ => by omega)
  rw [if_pos cin6, zl]
  have l4 : (z_cpI w3 23 78 0 0 6).2 = w.2 := l3
  generalize z_cpI w3 23 78 0 0 6 = w4 at c4 l4 ⊢
  replace c4 := cpM (T := fun b k => (b = 75 ∧ (k = 0)) ∨ (76 ≤ b ∧ b ≤ 78 ∧ k < 6)) c4 (fun b k => by omega)
  exact ⟨_, rfl, c4, l4⟩
def tSX0 (b k : Nat) : Prop := (109 ≤ b ∧ b ≤ 110 ∧ k < 12)
theorem takeSX0 (w : ZW) : ∃ r, f_X0_takeOver_108_53 w = some r ∧ Cp fS tSX0 w.1 r.1 ∧ r.2 = w.2 := by
  unfold f_X0_takeOver_108_53
  simp only [tn0, tn6, tn8, tn12, tn14]
  have c0 : Cp fS (fun _ k => k + 1 = 0) w.1 w.1 := cp0
  have c1 := cpR (w1 := w) 109 54 12 c0 rfl (fun k _ => by omega)
  rw [if_pos cin12, zl]
  have l1 : (z_cpI w 54 109 0 0 12).2 = w.2 := rfl
  generalize z_cpI w 54 109 0 0 12 = w1 at c1 l1 ⊢
  replace c1 := cpM (T := fun b k => (b = 109 ∧ k < 12)) c1 (fun b k => by omega)
  have c2 := cpR (w1 := w1) 110 55 12 c1 rfl (fun k _ => by omega)
  rw [if_pos cin12, zl]
  have l2 : (z_cpI w1 55 110 0 0 12).2 = w.2 := l1
  generalize z_cpI w1 55 110 0 0 12 = w2 at c2 l2 ⊢
  replace c2 := cpM (T := fun b k => (109 ≤ b ∧ b ≤ 110 ∧ k < 12)) c2 (fun b k => by omega)
  exact ⟨_, rfl, c2, l2⟩
def tCS (b k : Nat) : Prop := bC (b - 55) k ∧ 57 ≤ b
def tLS (b k : Nat) : Prop := bL (b - 55) k ∧ 57 ≤ b
theorem takeS (w : ZW) : ∃ r, f_X9_takeOver_56_1 w = some r ∧ Cp fS tCS w.1 r.1 ∧ Cp fS tLS w.2 r.2 := by
  obtain ⟨r1, e1, c1, l1⟩ := takeSX4 w
  obtain ⟨r2, e2, c2, l2⟩ := takeSX8 r1
  obtain ⟨r3, e3, c3, l3⟩ := takeSX2 r2
  obtain ⟨r4, e4, c4, l4⟩ := takeSX3 r3
  obtain ⟨r5, e5, c5, l5⟩ := takeSX0 r4
  refine ⟨r5, ?_, ?_, ?_⟩
  · unfold f_X9_takeOver_56_1
    rw [e1, Option.bind_some, e2, Option.bind_some, e3, Option.bind_some, e4, Option.bind_some, e5, Option.bind_some]
  · have d2 := cpT (T := fun b k => (tSX4 b k) ∨ tSX8 b k) c1 c2 (fun b k h => by unfold tSX4; unfold tSX8 at h; unfold fS; omega) (fun b k => Iff.rfl)
    have d3 := cpT (T := fun b k => ((tSX4 b k) ∨ tSX8 b k) ∨ tSX2 b k) d2 c3 (fun b k h => by unfold tSX4; unfold tSX2 at h; unfold tSX8 fS; omega) (fun b k => Iff.rfl)
    have d4 := cpT (T := fun b k => (((tSX4 b k) ∨ tSX8 b k) ∨ tSX2 b k) ∨ tSX3 b k) d3 c4 (fun b k h => by unfold tSX4; unfold tSX3 at h; unfold tSX8 tSX2 fS; omega) (fun b k => Iff.rfl)
    have d5 := cpT (T := fun b k => ((((tSX4 b k) ∨ tSX8 b k) ∨ tSX2 b k) ∨ tSX3 b k) ∨ tSX0 b k) d4 c5 (fun b k h => by unfold tSX4; unfold tSX0 at h; unfold tSX8 tSX2 tSX3 fS; omega) (fun b k => Iff.rfl)
    exact cpM d5 (fun b k => by unfold tCS bC tSX4 tSX8 tSX2 tSX3 tSX0; omega)
  · rw [l5, l4]
    rw [l2, l1] at l3
    exact cpM l3 (fun b k => by unfold tLS bL tlSX2; omega)
def tRX4 (b k : Nat) : Prop := (b = 2 ∧ (k = 0 ∨ k = 4 ∨ k = 5)) ∨ (3 ≤ b ∧ b ≤ 5 ∧ k < 6) ∨ (6 ≤ b ∧ b ≤ 11 ∧ k < 14)
theorem takeRX4 (w : ZW) : ∃ r, f_X4_takeOver_2_57 w = some r ∧ Cp fR tRX4 w.1 r.1 ∧ r.2 = w.2 := by
  unfold f_X4_takeOver_2_57
  simp only [tn0, tn6, tn8, tn12, tn14]
  have c0 : Cp fR (fun _ k => k + 1 = 0) w.1 w.1 := cp0
  have c1 := cpU (w1 := w) 2 57 0 c0 rfl (by omega)
  rw [zl]
  have l1 : (z_upI w 2 0 (w.1 57 0)).2 = w.2 := rfl
  generalize z_upI w 2 0 (w.1 57 0) = w1 at c1 l1 ⊢
  replace c1 := cpM (T := fun b k => (b = 2 ∧ (k = 0))) c1 (fun b k => by omega)
  have c2 := cpR (w1 := w1) 3 58 6 c1 rfl (fun k _ => by omega)
  rw [if_pos cin6, zl]
  have l2 : (z_cpI w1 58 3 0 0 6).2 = w.2 := l1
  generalize z_cpI w1 58 3 0 0 6 = w2 at c2 l2 ⊢
  replace c2 := cpM (T := fun b k => (b = 2 ∧ (k = 0)) ∨ (b = 3 ∧ k < 6)) c2 (fun b k => by omega)
  have c3 := cpR (w1 := w2) 4 59 6 c2 rfl (fun k _ => by omega)
  rw [if_pos cin6, zl]
  have l3 : (z_cpI w2 59 4 0 0 6).2 = w.2 := l2
  generalize z_cpI w2 59 4 0 0 6 = w3 at c3 l3 ⊢
  replace c3 := cpM (T := fun b k => (b = 2 ∧ (k = 0)) ∨ (3 ≤ b ∧ b ≤ 4 ∧ k < 6)) c3 (fun b k => by omega)
  have c4 := cpR (w1 := w3) 5 60 6 c3 rfl (fun k _ => by omega)
  rw [if_pos cin6, zl]
  have l4 : (z_cpI w3 60 5 0 0 6).2 = w.2 := l3
  generalize z_cpI w3 60 5 0 0 6 = w4 at c4 l4 ⊢
  replace c4 := cpM (T := fun b k => (b = 2 ∧ (k = 0)) ∨ (3 ≤ b ∧ b ≤ 5 ∧ k < 6)) c4 (fun b k => by omega)
  have c5 := cpU (w1 := w4) 2 57 4 c4 rfl (by omega)
  rw [zl]
  have l5 : (z_upI w4 2 4 (w4.1 57 4)).2 = w.2 := l4
  generalize z_upI w4 2 4 (w4.1 57 4) = w5 at c5 l5 ⊢
  replace c5 := cpM (T := fun b k => (b = 2 ∧ (k = 0 ∨ k = 4)) ∨ (3 ≤ b ∧ b ≤ 5 ∧ k < 6)) c5 (fun b k => by omega)
  have c6 := cpU (w1 := w5) 2 57 5 c5 rfl (by omega)
  rw [zl]
  have l6 : (z_upI w5 2 5 (w5.1 57 5)).2 = w.2 := l5
  generalize z_upI w5 2 5 (w5.1 57 5) = w6 at c6 l6 ⊢
  replace c6 := cpM (T := fun b k => (b = 2 ∧ (k = 0 ∨ k = 4 ∨ k = 5)) ∨ (3 ≤ b ∧ b ≤ 5 ∧ k < 6)) c6 (fun b k => by omega)
  have c7 := cpR (w1 := w6) 6 61 14 c6 rfl (fun k _ => by omega)
  rw [if_pos cin14, zl]
  have l7 : (z_cpI w6 61 6 0 0 14).2 = w.2 := l6
  generalize z_cpI w6 61 6 0 0 14 = w7 at c7 l7 ⊢
  replace c7 := cpM (T := fun b k => (b = 2 ∧ (k = 0 ∨ k = 4 ∨ k = 5)) ∨ (3 ≤ b ∧ b ≤ 5 ∧ k < 6) ∨ (b = 6 ∧ k < 14)) c7 (fun b k => by omega)
  have c8 := cpR (w1 := w7) 7 62 14 c7 rfl (fun k _ => by omega)
  rw [if_pos cin14, zl]
  have l8 : (z_cpI w7 62 7 0 0 14).2 = w.2 := l7
  generalize z_cpI w7 62 7 0 0 14 = w8 at c8 l8 ⊢
  replace c8 := cpM (T := fun b k => (b = 2 ∧ (k = 0 ∨ k = 4 ∨ k = 5)) ∨ (3 ≤ b ∧ b ≤ 5 ∧ k < 6) ∨ (6 ≤ b ∧ b ≤ 7 ∧ k < 14)) c8 (fun b k => by omega)
  have c9 := cpR (w1 := w8) 8 63 14 c8 rfl (fun k _ => by omega)
  rw [if_pos cin14, zl]
  have l9 : (z_cpI w8 63 8 0 0 14).2 = w.2 := l8
  generalize z_cpI w8 63 8 0 0 14 = w9 at c9 l9 ⊢
  replace c9 := cpM (T := fun b k => (b = 2 ∧ (k = 0 ∨ k = 4 ∨ k = 5)) ∨ (3 ≤ b ∧ b ≤ 5 ∧ k < 6) ∨ (6 ≤ b ∧ b ≤ 8 ∧ k < 14)) c9 (fun b k => by omega)
  have c10 := cpR (w1 := w9) 9 64 14 c9 rfl (fun k _ => by omega)
  rw [if_pos cin14, zl]
  have l10 : (z_cpI w9 64 9 0 0 14).2 = w.2 := l9
  generalize z_cpI w9 64 9 0 0 14 = w10 at c10 l10 ⊢
  replace c10 := cpM (T := fun b k => (b = 2 ∧ (k = 0 ∨ k = 4 ∨ k = 5)) ∨ (3 ≤ b ∧ b ≤ 5 ∧ k < 6) ∨ (6 ≤ b ∧ b ≤ 9 ∧ k < 14)) c10 (fun b k => by omega)
  have c11 := cpR (w1 := w10) 10 65 14 c10 rfl (fun k _ => by omega)
  rw [if_pos cin14, zl]
  have l11 : (z_cpI w10 65 10 0 0 14).2 = w.2 := l10
  generalize z_cpI w10 65 10 0 0 14 = w11 at c11 l11 ⊢
  replace c11 := cpM (T := fun b k => (b = 2 ∧ (k = 0 ∨ k = 4 ∨ k = 5)) ∨ (3 ≤ b ∧ b ≤ 5 ∧ k < 6) ∨ (6 ≤ b ∧ b ≤ 10 ∧ k < 14)) c11 (fun b k => by omega)
  have c12 := cpR (w1 := w11) 11 66 14 c11 rfl (fun k _ => by omega)
  rw [if_pos cin14, zl]
  have l12 : (z_cpI w11 66 11 0 0 14).2 = w.2 := l11
  generalize z_cpI w11 66 11 0 0 14 = w12 at c12 l12 ⊢
  replace c12 := cpM (T := fun b k => (b = 2 ∧ (k = 0 ∨ k = 4 ∨ k = 5)) ∨ (3 ≤ b ∧ b ≤ 5 ∧ k < 6) ∨ (6 ≤ b ∧ b ≤ 11 ∧ k < 14)) c12 (fun b k => by omega)
  exact ⟨_, rfl, c12, l12⟩
def tRX8 (b k : Nat) : Prop := (b = 12 ∧ (k = 0)) ∨ (13 ≤ b ∧ b ≤ 15 ∧ k < 6)
theorem takeRX8 (w : ZW) : ∃ r, f_X8_takeOver_12_67 w = some r ∧ Cp fR tRX8 w.1 r.1 ∧ r.2 = w.2 := by
  unfold f_X8_takeOver_12_67
  simp only [tn0, tn6, tn8, tn12, tn14]
  have c0 : Cp fR (fun _ k => k + 1 = 0) w.1 w.1 := cp0
  have c1 := cpU (w1 := w) 12 67 0 c0 rfl (by omega)
  rw [zl]
  have l1 : (z_upI w 12 0 (w.1 67 0)).2 = w.2 := rfl
  generalize z_upI w 12 0 (w.1 67 0) = w1 at c1 l1 ⊢
  replace c1 := cpM (T := fun b k => (b = 12 ∧ (k = 0))) c1 (fun b k => by omega)
  have c2 := cpR (w1 := w1) 13 68 6 c1 rfl (fun k _ => by omega)
  rw [if_pos cin6, zl]
  have l2 : (z_cpI w1 68 13 0 0 6).2 = w.2 := l1
  generalize z_cpI w1 68 13 0 0 6 = w2 at c2 l2 ⊢
  replace c2 := cpM (T := fun b k => (b = 12 ∧ (k = 0)) ∨ (b = 13 ∧ k < 6)) c2 (fun b k => by omega)
  have c3 := cpR (w1 := w2) 14 69 6 c2 rfl (fun k _ => by omega)
  rw [if_pos cin6, zl]
  have l3 : (z_cpI w2 69 14 0 0 6).2 = w.2 := l2
  generalize z_cpI w2 69 14 0 0 6 = w3 at c3 l3 ⊢
  replace c3 := cpM (T := fun b k => (b = 12 ∧ (k = 0)) ∨ (13 ≤ b ∧ b ≤ 14 ∧ k < 6)) c3 (fun b k => by omega)
  have c4 := cpR (w1 := w3) 15 70 6 c3 rfl (fun k _ => by omega)
  rw [if_pos cin6, zl]
  have l4 : (z_cpI w3 70 15 0 0 6).2 = w.2 := l3
  generalize z_cpI w3 70 15 0 0 6 = w4 at c4 l4 ⊢
  replace c4 := cpM (T := fun b k => (b = 12 ∧ (k = 0)) ∨ (13 ≤ b ∧ b ≤ 15 ∧ k < 6)) c4 (fun b k => by omega)
  exact ⟨_, rfl, c4, l4⟩
def tRX2 (b k : Nat) : Prop := (b = 16 ∧ (k = 0 ∨ k = 1))
def tlRX2 (b k : Nat) : Prop := (b = 17 ∧ k < 8) ∨ (b = 18 ∧ k < 14) ∨ (b = 19 ∧ k < 14)
theorem takeRX2 (w : ZW) : ∃ r, f_X2_takeOver_16_71 w = some r ∧ Cp fR tRX2 w.1 r.1 ∧ Cp fR tlRX2 w.2 r.2 := by
  unfold f_X2_takeOver_16_71
  simp only [tn0, tn6, tn8, tn12, tn14]
  have c0 : Cp fR (fun _ k => k + 1 = 0) w.1 w.1 := cp0
  have j0 : Cp fR (fun _ k => k + 1 = 0) w.2 w.2 := cp0
  have c1 := cpU (w1 := w) 16 71 0 c0 rfl (by omega)
  rw [zl]
  have j1 : Cp fR (fun _ k => k + 1 = 0) w.2 (z_upI w 16 0 (w.1 71 0)).2 := j0
  generalize z_upI w 16 0 (w.1 71 0) = w1 at c1 j1 ⊢
  replace c1 := cpM (T := fun b k => (b = 16 ∧ (k = 0))) c1 (fun b k => by omega)
  have c2 := cpU (w1 := w1) 16 71 1 c1 rfl (by omega)
  rw [zl]
  have j2 : Cp fR (fun _ k => k + 1 = 0) w.2 (z_upI w1 16 1 (w1.1 71 1)).2 := j1
  generalize z_upI w1 16 1 (w1.1 71 1) = w2 at c2 j2 ⊢
  replace c2 := cpM (T := fun b k => (b = 16 ∧ (k = 0 ∨ k = 1))) c2 (fun b k => by omega)
  have j3 := cpJ (w1 := w2) 17 72 8 j2 rfl (fun k _ => by omega)
  have c3 : Cp fR (fun b k => (b = 16 ∧ (k = 0 ∨ k = 1))) w.1 (z_cpJ w2 72 17 0 0 8).1 := c2
  rw [if_pos cin8, zl]
  generalize z_cpJ w2 72 17 0 0 8 = w3 at c3 j3 ⊢
  replace j3 := cpM (T := fun b k => (b = 17 ∧ k < 8)) j3 (fun b k => by omega)
  have j4 := cpJ (w1 := w3) 18 73 14 j3 rfl (fun k _ => by omega)
  have c4 : Cp fR (fun b k => (b = 16 ∧ (k = 0 ∨ k = 1))) w.1 (z_cpJ w3 73 18 0 0 14).1 := c3
  rw [if_pos cin14, zl]
  generalize z_cpJ w3 73 18 0 0 14 = w4 at c4 j4 ⊢
  replace j4 := cpM (T := fun b k => (b = 17 ∧ k < 8) ∨ (b = 18 ∧ k < 14)) j4 (fun b k => by omega)
  have j5 := cpJ (w1 := w4) 19 74 14 j4 rfl (fun k _ => by omega)
  have c5 : Cp fR (fun b k => (b = 16 ∧ (k = 0 ∨ k = 1))) w.1 (z_cpJ w4 74 19 0 0 14).1 := c4
  rw [if_pos cin14, zl]
  generalize z_cpJ w4 74 19 0 0 14 = w5 at c5 j5 ⊢
  replace j5 := cpM (T := fun b k => (b = 17 ∧ k < 8) ∨ (b = 18 ∧ k < 14) ∨ (b = 19 ∧ k < 14)) j5 (fun b k => by omega)
  exact ⟨_, rfl, c5, j5⟩
def tRX3 (b k : Nat) : Prop := (b = 20 ∧ (k = 0)) ∨ (21 ≤ b ∧ b ≤ 23 ∧ k < 6)
theorem takeRX3 (w : ZW) : ∃ r, f_X3_takeOver_20_75 w = some r ∧ Cp fR tRX3 w.1 r.1 ∧ r.2 = w.2 := by
  unfold f_X3_takeOver_20_75
  simp only [tn0, tn6, tn8, tn12, tn14]
  have c0 : Cp fR (fun _ k => k + 1 = 0) w.1 w.1 := cp0
  have c1 := cpU (w1 := w) 20 75 0 c0 rfl (by omega)
  rw [zl]
  have l1 : (z_upI w 20 0 (w.1 75 0)).2 = w.2 := rfl
  generalize z_upI w 20 0 (w.1 75 0) = w1 at c1 l1 ⊢
  replace c1 := cpM (T := fun b k => (b = 20 ∧ (k = 0))) c1 (fun b k => by omega)
  have c2 := cpR (w1 := w1) 21 76 6 c1 rfl (fun k _ => by omega)
  rw [if_pos cin6, zl]
  have l2 : (z_cpI w1 76 21 0 0 6).2 = w.2 := l1
  generalize z_cpI w1 76 21 0 0 6 = w2 at c2 l2 ⊢
  replace c2 := cpM (T := fun b k => (b = 20 ∧ (k = 0)) ∨ (b = 21 ∧ k < 6)) c2 (fun b k => by omega)
  have c3 := cpR (w1 := w2) 22 77 6 c2 rfl (fun k _ => by omega)
  rw [if_pos cin6, zl]
  have l3 : (z_cpI w2 77 22 0 0 6).2 = w.2 := l2
  generalize z_cpI w2 77 22 0 0 6 = w3 at c3 l3 ⊢
  replace c3 := cpM (T := fun b k => (b = 20 ∧ (k = 0)) ∨ (21 ≤ b ∧ b ≤ 22 ∧ k < 6)) c3 (fun b k => by omega)
  have c4 := cpR (w1 := w3) 23 78 6 c3 rfl (fun k _ => by omega)
  rw [if_pos cin6, zl]
  have l4 : (z_cpI w3 78 23 0 0 6).2 = w.2 := l3
  generalize z_cpI w3 78 23 0 0 6 = w4 at c4 l4 ⊢
  replace c4 := cpM (T := fun b k => (b = 20 ∧ (k = 0)) ∨ (21 ≤ b ∧ b ≤ 23 ∧ k < 6)) c4 (fun b k => by omega)
  exact ⟨_, rfl, c4, l4⟩
def tRX0 (b k : Nat) : Prop := (54 ≤ b ∧ b ≤ 55 ∧ k < 12)
theorem takeRX0 (w : ZW) : ∃ r, f_X0_takeOver_53_108 w = some r ∧ Cp fR tRX0 w.1 r.1 ∧ r.2 = w.2 := by
  unfold f_X0_takeOver_53_108
  simp only [tn0, tn6, tn8, tn12, tn14]
  have c0 : Cp fR (fun _ k => k + 1 = 0) w.1 w.1 := cp0
  have c1 := cpR (w1 := w) 54 109 12 c0 rfl (fun k _ => by omega)
  rw [if_pos cin12, zl]
  have l1 : (z_cpI w 109 54 0 0 12).2 = w.2 := rfl
  generalize z_cpI w 109 54 0 0 12 = w1 at c1 l1 ⊢
  replace c1 := cpM (T := fun b k => (b = 54 ∧ k < 12)) c1 (fun b k => by omega)
  have c2 := cpR (w1 := w1) 55 110 12 c1 rfl (fun k _ => by omega)
  rw [if_pos cin12, zl]
  have l2 : (z_cpI w1 110 55 0 0 12).2 = w.2 := l1
  generalize z_cpI w1 110 55 0 0 12 = w2 at c2 l2 ⊢
  replace c2 := cpM (T := fun b k => (54 ≤ b ∧ b ≤ 55 ∧ k < 12)) c2 (fun b k => by omega)
  exact ⟨_, rfl, c2, l2⟩
def tCR (b k : Nat) : Prop := bC b k
def tLR (b k : Nat) : Prop := bL b k
theorem takeR (w : ZW) : ∃ r, f_X9_takeOver_1_56 w = some r ∧ Cp fR tCR w.1 r.1 ∧ Cp fR tLR w.2 r.2 := by
  obtain ⟨r1, e1, c1, l1⟩ := takeRX4 w
  obtain ⟨r2, e2, c2, l2⟩ := takeRX8 r1
  obtain ⟨r3, e3, c3, l3⟩ := takeRX2 r2
  obtain ⟨r4, e4, c4, l4⟩ := takeRX3 r3
  obtain ⟨r5, e5, c5, l5⟩ := takeRX0 r4
  refine ⟨r5, ?_, ?_, ?_⟩
  · unfold f_X9_takeOver_1_56
    rw [e1, Option.bind_some, e2, Option.bind_some, e3, Option.bind_some, e4, Option.bind_some, e5, Option.bind_some]
  · have d2 := cpT (T := fun b k => (tRX4 b k) ∨ tRX8 b k) c1 c2 (fun b k h => by unfold tRX4; unfold tRX8 at h; unfold fR; omega) (fun b k => Iff.rfl)
    have d3 := cpT (T := fun b k => ((tRX4 b k) ∨ tRX8 b k) ∨ tRX2 b k) d2 c3 (fun b k h => by unfold tRX4; unfold tRX2 at h; unfold tRX8 fR; omega) (fun b k => Iff.rfl)
    have d4 := cpT (T := fun b k => (((tRX4 b k) ∨ tRX8 b k) ∨ tRX2 b k) ∨ tRX3 b k) d3 c4 (fun b k h => by unfold tRX4; unfold tRX3 at h; unfold tRX8 tRX2 fR; omega) (fun b k => Iff.rfl)
    have d5 := cpT (T := fun b k => ((((tRX4 b k) ∨ tRX8 b k) ∨ tRX2 b k) ∨ tRX3 b k) ∨ tRX0 b k) d4 c5 (fun b k h => by unfold tRX4; unfold tRX0 at h; unfold tRX8 tRX2 tRX3 fR; omega) (fun b k => Iff.rfl)
    exact cpM d5 (fun b k => by unfold tCR bC tRX4 tRX8 tRX2 tRX3 tRX0; omega)
  · rw [l5, l4]
    rw [l2, l1] at l3
    exact cpM l3 (fun b k => by unfold tLR bL tlRX2; omega)
