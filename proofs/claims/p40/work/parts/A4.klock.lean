/-! a lock more: what the others bear -/
theorem rU_step {R : ST} (hI : RailI R) (hg : R 0 2 = 0) {k j : Nat} (hk : k < R 0 1) (hj : j < R 0 1) : (rU R k).testBit j = true ↔ j = k ∨ (R 9 j ≠ 0 ∧ (rU R k).testBit (R 9 j - 1) = true) := by
  have h9 := (hI.2.2.2.2 j hj).2.2.2.2.2.1
  by_cases e : j = k
  · subst e
    exact ⟨fun _ => Or.inl rfl, fun _ => rUn_self _⟩
  · by_cases lt : j < k
    · constructor
      · intro h
        have := rUn_ge _ h
        omega
      · rintro (h | ⟨h1, h2⟩)
        · exact absurd h e
        · have := rUn_ge _ h2
          omega
    · obtain ⟨d, rfl⟩ : ∃ d, j = k + 1 + d := ⟨j - (k + 1), by omega⟩
      obtain ⟨m, hm⟩ : ∃ m, R 0 1 - (k + 1) = d + 1 + m := ⟨R 0 1 - (k + 1) - (d + 1), by omega⟩
      obtain ⟨m2, hm2⟩ : ∃ m2, R 0 1 - (k + 1) = d + m2 := ⟨R 0 1 - (k + 1) - d, by omega⟩
      have b1 : (rU R k).testBit (k + 1 + d) = (rUn R k (d + 1)).testBit (k + 1 + d) := by
        unfold rU
        rw [hm]
        exact rUn_keep m (d + 1) (by omega)
      have lo : (rUn R k d).testBit (k + 1 + d) = false := Nat.testBit_lt_two_pow (rUn_lt (Nat.le_refl _))
      rw [b1]
      show (if (!((R 0 2).testBit (k + 1 + d)) && decide (R 9 (k + 1 + d) ≠ 0) && (rUn R k d).testBit (R 9 (k + 1 + d) - 1)) = true then rUn R k d ||| 2 ^ (k + 1 + d) else rUn R k d).testBit (k + 1 + d) = true ↔ _
      rw [hg, Nat.zero_testBit]
      by_cases q : R 9 (k + 1 + d) = 0
      · rw [if_neg (by simp [q]), lo]
        refine ⟨fun h => absurd h (by decide), fun h => ?_⟩
        rcases h with h | ⟨h, -⟩
        · omega
        · exact absurd q h
      · have b2 : (rU R k).testBit (R 9 (k + 1 + d) - 1) = (rUn R k d).testBit (R 9 (k + 1 + d) - 1) := by
          unfold rU
          rw [hm2]
          exact rUn_keep m2 d (by omega)
        rw [b2]
        by_cases t : (rUn R k d).testBit (R 9 (k + 1 + d) - 1) = true
        · rw [if_pos (by simp [q, t]), Nat.testBit_or, Nat.testBit_two_pow_self, Bool.or_true]
          exact ⟨fun _ => Or.inr ⟨q, t⟩, fun _ => rfl⟩
        · rw [if_neg (by simp [t]), lo]
          refine ⟨fun h => absurd h (by decide), fun h => ?_⟩
          rcases h with h | ⟨-, h⟩
          · omega
          · exact absurd h t
/-- what hangs on a lock hangs on its bar -/
theorem rU_bar {R : ST} (hI : RailI R) (hg : R 0 2 = 0) {k : Nat} (hk : k < R 0 1) : ∀ n j, j ≤ n → j < R 0 1 → (rU R k).testBit j = true → R 7 j = R 7 k ∧ R 8 j = R 8 k := by
  intro n
  induction n with
  | zero =>
    intro j h1 h2 h3
    rcases (rU_step hI hg hk h2).mp h3 with e | ⟨e1, e2⟩
    · subst e; exact ⟨rfl, rfl⟩
    · have := (hI.2.2.2.2 j h2).2.2.2.2.2.1
      omega
  | succ n ih =>
    intro j h1 h2 h3
    rcases (rU_step hI hg hk h2).mp h3 with e | ⟨e1, e2⟩
    · subst e; exact ⟨rfl, rfl⟩
    · obtain ⟨-, -, -, -, -, h9, h⟩ := hI.2.2.2.2 j h2
      obtain ⟨a1, a2, -⟩ := h e1
      obtain ⟨b1, b2⟩ := ih (R 9 j - 1) (by omega) (by omega) e2
      exact ⟨a1.trans b1, a2.trans b2⟩
theorem rUn_cong {R R' : ST} {l : Nat} : ∀ k, (∀ i, i < l + 1 + k → (R' 0 2).testBit i = (R 0 2).testBit i ∧ R' 9 i = R 9 i) → rUn R' l k = rUn R l k
  | 0, _ => rfl
  | k + 1, h => by
    unfold rUn
    rw [rUn_cong k (fun i hi => h i (by omega)), (h (l + 1 + k) (by omega)).1, (h (l + 1 + k) (by omega)).2]
theorem rWn_congR {R R' : ST} {b : Nat} : ∀ k, (∀ i, i < k → R' 4 i = R 4 i) → rWn R' b k = rWn R b k
  | 0, _ => rfl
  | k + 1, h => by
    unfold rWn
    rw [rWn_congR k (fun i hi => h i (by omega)), h k (by omega)]
theorem rHn_congR {R R' : ST} {p q : Nat} : ∀ k, (∀ i, i < k → (R' 0 2).testBit i = (R 0 2).testBit i ∧ R' 7 i = R 7 i ∧ R' 8 i = R 8 i) → rHn R' p q k = rHn R p q k
  | 0, _ => rfl
  | k + 1, h => by
    unfold rHn
    obtain ⟨a, b, c⟩ := h k (by omega)
    rw [rHn_congR k (fun i hi => h i (by omega)), a, b, c]
theorem rWn_up {R : ST} {b L : Nat} : ∀ k, k ≤ L → rWn R (b ||| 2 ^ L) k = rWn R b k := fun k hk => rWn_cong k (fun i hi => by
  rw [Nat.testBit_or, Nat.testBit_two_pow]
  simp [show ¬ L = i by omega])
section LK
variable {R : ST} {p q m x y z : Nat}
theorem lk_o4 {a j : Nat} (h : j < R 0 1) (ha : a ≠ 0) : lkR R (R 0 1) p q m x y z a j = R a j := lkR_o (by omega) (by omega)
theorem lk_02 : lkR R (R 0 1) p q m x y z 0 2 = R 0 2 := lkR_o (by omega) (by omega)
theorem lk_U {l : Nat} (hg : R 0 2 = 0) (hm : m ≠ 0) (hl : l < R 0 1) : rU (lkR R (R 0 1) p q m x y z) l = if (rU R l).testBit (m - 1) = true then rU R l ||| 2 ^ R 0 1 else rU R l := by
  have e : rUn (lkR R (R 0 1) p q m x y z) l (R 0 1 - (l + 1)) = rU R l := rUn_cong _ (fun i hi => ⟨by rw [lk_02], lk_o4 (by omega) (by omega)⟩)
  unfold rU
  rw [lkR_L, show R 0 1 + 1 - (l + 1) = R 0 1 - (l + 1) + 1 by omega]
  show (if (!((lkR R (R 0 1) p q m x y z 0 2).testBit (l + 1 + (R 0 1 - (l + 1)))) && decide (lkR R (R 0 1) p q m x y z 9 (l + 1 + (R 0 1 - (l + 1))) ≠ 0) && (rUn (lkR R (R 0 1) p q m x y z) l (R 0 1 - (l + 1))).testBit (lkR R (R 0 1) p q m x y z 9 (l + 1 + (R 0 1 - (l + 1))) - 1)) = true then _ else _) = _
  rw [e, show l + 1 + (R 0 1 - (l + 1)) = R 0 1 by omega, lk_02, hg, Nat.zero_testBit, lkR_n.2.2.2.2.2]
  by_cases t : (rU R l).testBit (m - 1) = true
  · rw [if_pos (by simp [hm, t]), if_pos (show (rUn R l (R 0 1 - (l + 1))).testBit (m - 1) = true from t)]
    rfl
  · rw [if_neg (by simp [t]), if_neg (show ¬ (rUn R l (R 0 1 - (l + 1))).testBit (m - 1) = true from t)]
    rfl
theorem lk_W {b : Nat} (hb : b < 2 ^ R 0 1) (t : Bool) : rW (lkR R (R 0 1) p q m x y z) (if t = true then b ||| 2 ^ R 0 1 else b) = rW R b + if t = true then x else 0 := by
  unfold rW
  rw [lkR_L, rWn_s, rWn_congR (R 0 1) (fun i hi => lk_o4 hi (by omega)), lkR_n.1]
  cases t
  · simp only [Bool.false_eq_true, if_false]
    rw [if_neg (by rw [Nat.testBit_lt_two_pow hb]; decide)]
  · simp only [if_true]
    rw [rWn_up _ (Nat.le_refl _), if_pos (by rw [Nat.testBit_or, Nat.testBit_two_pow_self, Bool.or_true])]
theorem lk_B {l : Nat} (hI : RailI R) (hg : R 0 2 = 0) (hm : m ≠ 0) (hl : l < R 0 1) : rB (lkR R (R 0 1) p q m x y z) l = rB R l + if (rU R l).testBit (m - 1) = true then x else 0 := by
  unfold rB
  rw [lk_U hg hm hl, lk_W (rU_lt hI hl), lk_o4 hl (by omega)]
  have := rWn_mem (R := R) (rUn_self (R := R) (l := l) (R 0 1 - (l + 1))) (R 0 1) hl
  have : R 4 l ≤ rW R (rU R l) := this
  omega
theorem lk_P (hI : RailI R) (hI' : RailI (lkR R (R 0 1) p q m x y z)) (hg : R 0 2 = 0) : rLd (lkR R (R 0 1) p q m x y z) p 3 = rLd R p 3 + x := by
  have e : rH (lkR R (R 0 1) p q m x y z) p 3 = rH R p 3 ||| 2 ^ R 0 1 := by
    have e1 : rHn (lkR R (R 0 1) p q m x y z) p 3 (R 0 1) = rHn R p 3 (R 0 1) := rHn_congR _ (fun i hi => ⟨by rw [lk_02], lk_o4 hi (by omega), lk_o4 hi (by omega)⟩)
    unfold rH
    rw [lkR_L]
    show (if (!((lkR R (R 0 1) p q m x y z 0 2).testBit (R 0 1)) && decide (lkR R (R 0 1) p q m x y z 7 (R 0 1) = p) && (decide (3 = 3) || decide (lkR R (R 0 1) p q m x y z 8 (R 0 1) = 3))) = true then _ else _) = _
    rw [e1, lk_02, hg, Nat.zero_testBit, lkR_n.2.2.2.1, if_pos (by simp)]
  unfold rLd
  rw [if_neg (by omega), if_pos rfl, if_neg (by omega), if_pos rfl, ← rPL_3 hI, ← rPL_3 hI', e]
  have := lk_W (R := R) (p := p) (q := q) (m := m) (x := x) (y := y) (z := z) (rH_lt (R := R) (p := p) (q := 3)) true
  rw [if_pos rfl, if_pos rfl] at this
  exact this
end LK
