/-! ways: the model, a year and all years -/
def Wn (S : ST) (al : Nat → Nat → Nat → Bool) (g e k t : Nat) : Nat := (wyl (S 0 0) al g e k t (fun _ => 0)).length
theorem wyl_lf {N : Nat} {al : Nat → Nat → Nat → Bool} {g : Nat} (hN : N ≤ 8) : ∀ e k t f h, (wyl N al g e k t f).length = (wyl N al g e k t h).length
  | 0, _, _, _, _ => rfl
  | e + 1, k, t, f, h => by
    rw [wyl_s, wyl_s]
    by_cases q : g.testBit k = true
    · rw [if_pos q, if_pos q, als_64 hN, als_64 hN]
      refine sumN_cong 64 (fun j _ => ?_)
      by_cases q2 : j / 8 < j % 8 ∧ j % 8 < N
      · rw [if_pos q2, if_pos q2]
        by_cases q3 : (decide (t &&& tw (j / 8) (j % 8) = 0) && al k (j / 8) (j % 8)) = true
        · rw [if_pos q3, if_pos q3]
          exact wyl_lf hN e (k + 1) _ _ _
        · rw [if_neg q3, if_neg q3]
      · rw [if_neg q2, if_neg q2]
    · rw [if_neg q, if_neg q]
      exact wyl_lf hN e (k + 1) t f h
theorem Wn_t {S : ST} {al : Nat → Nat → Nat → Bool} {g e k t : Nat} (hN : S 0 0 ≤ 8) (h : g.testBit k = true) : Wn S al g (e + 1) k t = sumN (fun j => if j / 8 < j % 8 ∧ j % 8 < S 0 0 ∧ al k (j / 8) (j % 8) = true then (if t &&& tw (j / 8) (j % 8) = 0 then Wn S al g e (k + 1) (t ||| tw (j / 8) (j % 8)) else 0) else 0) 64 := by
  unfold Wn
  rw [wyl_s, if_pos h, als_64 hN]
  refine sumN_cong 64 (fun j _ => ?_)
  by_cases q1 : j / 8 < j % 8 ∧ j % 8 < S 0 0
  · rw [if_pos q1]
    by_cases q2 : al k (j / 8) (j % 8) = true
    · have r : j / 8 < j % 8 ∧ j % 8 < S 0 0 ∧ al k (j / 8) (j % 8) = true := ⟨q1.1, q1.2, q2⟩
      rw [if_pos r]
      by_cases q3 : t &&& tw (j / 8) (j % 8) = 0
      · have r2 : (decide (t &&& tw (j / 8) (j % 8) = 0) && al k (j / 8) (j % 8)) = true := by rw [decide_eq_true q3, q2]; rfl
        rw [if_pos q3, if_pos r2]
        exact wyl_lf hN e (k + 1) _ _ _
      · have r2 : ¬ (decide (t &&& tw (j / 8) (j % 8) = 0) && al k (j / 8) (j % 8)) = true := fun z => by
          rw [Bool.and_eq_true] at z
          exact q3 (of_decide_eq_true z.1)
        rw [if_neg q3, if_neg r2]
        rfl
    · have r : ¬ (j / 8 < j % 8 ∧ j % 8 < S 0 0 ∧ al k (j / 8) (j % 8) = true) := fun z => q2 z.2.2
      have r2 : ¬ (decide (t &&& tw (j / 8) (j % 8) = 0) && al k (j / 8) (j % 8)) = true := fun z => by
        rw [Bool.and_eq_true] at z
        exact q2 z.2
      rw [if_neg r, if_neg r2]
      rfl
  · rw [if_neg q1, if_neg (fun z => q1 ⟨z.1, z.2.1⟩)]
theorem Wn_f {S : ST} {al : Nat → Nat → Nat → Bool} {g e k t : Nat} (h : g.testBit k = false) : Wn S al g (e + 1) k t = Wn S al g e (k + 1) t := by
  unfold Wn
  rw [wyl_s, if_neg (by rw [h]; simp)]
theorem Wn_one {S : ST} {al : Nat → Nat → Nat → Bool} {g : Nat} : ∀ e k t, (∀ i, k ≤ i → g.testBit i = false) → Wn S al g e k t = 1
  | 0, _, _, _ => rfl
  | e + 1, k, t, h => by
    rw [Wn_f (h k (Nat.le_refl _))]
    exact Wn_one e (k + 1) t (fun i hi => h i (by omega))
theorem Wn_step {S : ST} {al : Nat → Nat → Nat → Bool} {g e k pe wy : Nat} {u : Nat → Nat} (hN : S 0 0 ≤ 8) (h : g.testBit k = true) (ha : ∀ j, j < 64 → (mayj S k pe wy j = true ↔ j / 8 < j % 8 ∧ j % 8 < S 0 0 ∧ al k (j / 8) (j % 8) = true)) : sumN (fun t => u t * Wn S al g (e + 1) k t) 256 = accj S k pe wy u (Wn S al g e (k + 1)) 64 := by
  unfold accj accs
  have e1 : sumN (fun t => u t * Wn S al g (e + 1) k t) 256 = sumN (fun t => sumN (fun j => u t * (if j / 8 < j % 8 ∧ j % 8 < S 0 0 ∧ al k (j / 8) (j % 8) = true then (if t &&& tw (j / 8) (j % 8) = 0 then Wn S al g e (k + 1) (t ||| tw (j / 8) (j % 8)) else 0) else 0)) 64) 256 := by
    refine sumN_cong 256 (fun t _ => ?_)
    rw [Wn_t hN h, ← sumN_mul]
  rw [e1, sumN_comm]
  refine sumN_cong 64 (fun j hj => ?_)
  by_cases q : mayj S k pe wy j = true
  · rw [if_pos q]
    refine sumN_cong 256 (fun t _ => ?_)
    rw [if_pos ((ha j hj).mp q)]
    by_cases q2 : t &&& tw (j / 8) (j % 8) = 0
    · rw [if_pos q2, if_pos q2]
    · rw [if_neg q2, if_neg q2, Nat.mul_zero]
  · rw [if_neg q]
    refine sumN_zero 256 (fun t _ => ?_)
    rw [if_neg (fun z => q ((ha j hj).mpr z)), Nat.mul_zero]
theorem sumN_one {W : Nat → Nat} : ∀ n, 0 < n → sumN (fun t => (if t = 0 then 1 else 0) * W t) n = W 0
  | 0, h => by omega
  | n + 1, _ => by
    rw [sumN_s]
    by_cases z : n = 0
    · subst z
      rw [if_pos rfl, Nat.one_mul]
      exact Nat.zero_add _
    · rw [if_neg z, Nat.zero_mul, Nat.add_zero]
      exact sumN_one n (by omega)
def alw (S : ST) (l pe wy : Nat) : Nat → Nat → Nat → Bool := alr (cb S) l (uph pe wy)
theorem may_alw {S : ST} {lk pe wy k j : Nat} (h0 : lk = 0 → pe = 0) : mayj S k (if lk = k + 1 then pe else 0) wy j = true ↔ j / 8 < j % 8 ∧ j % 8 < S 0 0 ∧ alw S (lk - 1) pe wy k (j / 8) (j % 8) = true := by
  have e : uph (if lk = k + 1 then pe else 0) wy (tw (j / 8) (j % 8)) = (!(decide (k = lk - 1)) || uph pe wy (tw (j / 8) (j % 8))) := by
    have u0 : ∀ b, uph 0 wy b = true := fun b => rfl
    by_cases q : lk = k + 1
    · rw [if_pos q, decide_eq_true (show k = lk - 1 by omega)]
      rfl
    · rw [if_neg q, u0]
      by_cases q2 : k = lk - 1
      · have : lk = 0 := by omega
        rw [h0 this, u0, Bool.or_true]
      · rw [decide_eq_false q2]
        rfl
  unfold mayj alw alr
  rw [e, Bool.and_eq_true, Bool.and_eq_true, decide_eq_true_eq, decide_eq_true_eq, Bool.and_comm (cb S k (j / 8) (j % 8))]
def Wb (R S : ST) (l pe wy : Nat) : Nat := prN (fun y => Wn S (alw S l pe wy) (grp R S y) 14 0 0) 20
