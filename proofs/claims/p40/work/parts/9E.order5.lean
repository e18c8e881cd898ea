/-! order: the model's walk; both -/
def dsc (c : Nat → Bool) (N : Nat) : Nat → Nat
  | 0 => 0
  | i + 1 => if c (N - i) = true then N - i + 1 else dsc c N i
theorem dsc_s {c : Nat → Bool} {N i : Nat} : dsc c N (i + 1) = if c (N - i) = true then N - i + 1 else dsc c N i := rfl
theorem dsc_le {c : Nat → Bool} {N : Nat} : ∀ i, dsc c N i ≤ N + 1
  | 0 => Nat.zero_le _
  | i + 1 => by
    have := dsc_le (c := c) (N := N) i
    rw [dsc_s]
    split <;> omega
theorem dsc_first {c : Nat → Bool} {N a : Nat} (ha : a ≤ N) (h : c a = true) (h0 : ∀ s, s < a → c s = false) : ∀ k, k ≤ a → dsc c N (N - a + 1 + k) = a + 1
  | 0, _ => by
    rw [Nat.add_zero, dsc_s, show N - (N - a) = a by omega, if_pos h]
  | k + 1, hk => by
    have ih := dsc_first ha h h0 k (by omega)
    rw [← Nat.add_assoc, dsc_s, if_neg (by rw [h0 (N - (N - a + 1 + k)) (by omega)]; simp), ih]
def oc2b (S : ST) (D k left s : Nat) : Bool := okv S (11 - k) left s && (decide (ob S D k (ndn left s) < D) && decide (wt S (11 - k) (ndn left s) + ob S D k (ndn left s) = ob S D (k + 1) left))
theorem oc2b_iff {S : ST} {D k left s : Nat} : oc2b S D k left s = true ↔ oc2 S D k left s := by
  unfold oc2b oc2
  rw [Bool.and_eq_true, Bool.and_eq_true, decide_eq_true_eq, decide_eq_true_eq]
/-- the model finds the class's choice -/
theorem found_eq {P : Nat} {S : ST} (hI : NightI P S) {M D all n : Nat} (hM : 100000 ≤ M) (hD : M ≤ D) (ha : all < 64) (hn : n < 12) : dsc (oc2b S D (11 - n) (lfp S M all n)) 63 64 = chp S M all n + 1 := by
  obtain ⟨c1, c2, c3⟩ := chp_ok hI hM ha hn
  obtain ⟨b1, b2⟩ := och_both (D := D) hD c3
  have := dsc_first (c := oc2b S D (11 - n) (lfp S M all n)) (N := 63) (a := chp S M all n) (by omega) (oc2b_iff.mpr b1) (fun s hs => by
    cases q : oc2b S D (11 - n) (lfp S M all n) s
    · rfl
    · exact absurd (oc2b_iff.mp q) (b2 s hs)) (chp S M all n) (Nat.le_refl _)
  rw [show 63 - chp S M all n + 1 + chp S M all n = 64 by omega] at this
  exact this
