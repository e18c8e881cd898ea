/-! stolen: the model's list -/
def dl (all : Nat) : Nat → List Nat
  | 0 => []
  | s + 1 => if ndn (s + 1) all = 0 then (s + 1) :: dl all s else dl all s
theorem dl_s {all s : Nat} : dl all (s + 1) = if ndn (s + 1) all = 0 then (s + 1) :: dl all s else dl all s := rfl
theorem dl_mem {all x : Nat} : ∀ t, x ∈ dl all t ↔ x ≠ 0 ∧ x ≤ t ∧ ndn x all = 0
  | 0 => ⟨(fun h => by cases h), (fun h => by omega)⟩
  | t + 1 => by
    have ih := dl_mem (all := all) (x := x) t
    rw [dl_s]
    by_cases q : ndn (t + 1) all = 0
    · rw [if_pos q, List.mem_cons, ih]
      constructor
      · rintro (h | ⟨h1, h2, h3⟩)
        · subst h; exact ⟨by omega, Nat.le_refl _, q⟩
        · exact ⟨h1, by omega, h3⟩
      · rintro ⟨h1, h2, h3⟩
        by_cases z : x = t + 1
        · exact Or.inl z
        · exact Or.inr ⟨h1, by omega, h3⟩
    · rw [if_neg q, ih]
      constructor
      · rintro ⟨h1, h2, h3⟩
        exact ⟨h1, by omega, h3⟩
      · rintro ⟨h1, h2, h3⟩
        refine ⟨h1, ?_, h3⟩
        by_cases z : x = t + 1
        · subst z; exact absurd h3 q
        · omega
theorem dl_nodup {all : Nat} : ∀ t, (dl all t).Nodup
  | 0 => List.Pairwise.nil
  | t + 1 => by
    rw [dl_s]
    split
    · refine List.nodup_cons.mpr ⟨fun h => ?_, dl_nodup t⟩
      have := ((dl_mem t).mp h).2.1
      omega
    · exact dl_nodup t
theorem dl_len {all : Nat} : ∀ t, (dl all t).length ≤ t
  | 0 => Nat.le_refl _
  | t + 1 => by
    have := dl_len (all := all) t
    rw [dl_s]
    split
    · rw [List.length_cons]; omega
    · omega
theorem dl_skip {all y : Nat} : ∀ t, y ≤ t → (∀ x, y < x → x ≤ t → ndn x all ≠ 0) → dl all t = dl all y
  | 0, h, _ => by
    have : y = 0 := by omega
    rw [this]
  | t + 1, h, hx => by
    by_cases z : y = t + 1
    · rw [z]
    · rw [dl_s, if_neg (hx (t + 1) (by omega) (Nat.le_refl _))]
      exact dl_skip t (by omega) (fun x h1 h2 => hx x h1 (by omega))
theorem odd_dec : ∀ n t, t ≤ n → t ≠ 0 → ∃ j o, t = 2 ^ j * (2 * o + 1)
  | 0, t, h, h0 => by omega
  | n + 1, t, h, h0 => by
    by_cases q : t % 2 = 1
    · exact ⟨0, t / 2, by rw [Nat.pow_zero, Nat.one_mul]; omega⟩
    · obtain ⟨j, o, e⟩ := odd_dec n (t / 2) (by omega) (by omega)
      refine ⟨j + 1, o, ?_⟩
      have : t = 2 * (t / 2) := by omega
      rw [this, e, Nat.pow_succ, Nat.mul_comm (2 ^ j) 2, Nat.mul_assoc]
/-- the submask before one -/
theorem sub_prev {all t x : Nat} (h0 : t ≠ 0) (ht : sbq t all) (hx : sbq x all) (hl : x ≤ t - 1) : x ≤ (t - 1) &&& all := by
  obtain ⟨j, o, e⟩ := odd_dec t t (Nat.le_refl _) h0
  have pp : 0 < 2 ^ j := Nat.pow_pos (by omega)
  have tb : ∀ a b i, b < 2 ^ j → (2 ^ j * a + b).testBit i = if i < j then b.testBit i else a.testBit (i - j) := fun a b i hb => Nat.testBit_two_pow_mul_add a hb i
  have e1 : t - 1 = 2 ^ j * (2 * o) + (2 ^ j - 1) := by
    rw [e, Nat.mul_add, Nat.mul_one]
    omega
  have e2 : t = 2 ^ j * (2 * o + 1) + 0 := by rw [Nat.add_zero]; exact e
  have am : all % 2 ^ j < 2 ^ j := Nat.mod_lt _ pp
  have y0 : 2 ^ j * (2 * o) + all % 2 ^ j ≤ (t - 1) &&& all := Nat.le_of_testBit (fun i hi => by
    rw [tb _ _ _ am] at hi
    rw [Nat.testBit_and, Bool.and_eq_true, e1, tb _ _ _ (by omega)]
    by_cases q : i < j
    · rw [if_pos q, Nat.testBit_mod_two_pow, decide_eq_true q, Bool.true_and] at hi
      rw [if_pos q, Nat.testBit_two_pow_sub_one]
      exact ⟨decide_eq_true q, hi⟩
    · rw [if_neg q] at hi
      rw [if_neg q]
      refine ⟨hi, ht i ?_⟩
      rw [e2, tb _ _ _ pp, if_neg q]
      generalize i - j = k at hi
      cases k with
      | zero =>
        rw [Nat.testBit_zero] at hi
        have := of_decide_eq_true hi
        omega
      | succ k =>
        rw [Nat.testBit_succ] at hi ⊢
        rw [show (2 * o + 1) / 2 = 2 * o / 2 by omega]
        exact hi)
  have x1 : x / 2 ^ j < 2 * o + 1 := by
    rw [Nat.div_lt_iff_lt_mul pp, Nat.mul_comm, ← e]
    omega
  have x2 : x % 2 ^ j ≤ all % 2 ^ j := Nat.le_of_testBit (fun i hi => by
    rw [Nat.testBit_mod_two_pow, Bool.and_eq_true] at hi ⊢
    exact ⟨hi.1, hx i hi.2⟩)
  have x3 : 2 ^ j * (x / 2 ^ j) ≤ 2 ^ j * (2 * o) := Nat.mul_le_mul_left _ (by omega)
  have x4 := Nat.div_add_mod x (2 ^ j)
  omega
theorem dl_next {all t : Nat} (h14 : t < 2 ^ 14) (h0 : t ≠ 0) (ht : sbq t all) : dl all t = t :: dl all ((t - 1) &&& all) := by
  obtain ⟨s, rfl⟩ : ∃ s, t = s + 1 := ⟨t - 1, by omega⟩
  rw [dl_s, if_pos ((sbq_iff h14).mpr ht), Nat.add_sub_cancel]
  congr 1
  refine dl_skip s Nat.and_le_left (fun x h1 h2 h3 => ?_)
  have := sub_prev (t := s + 1) h0 ht ((sbq_iff (by omega)).mp h3) (by omega)
  rw [Nat.add_sub_cancel] at this
  omega
/-- what the model asks of a loot -/
def abv (R : ST) (s k : Nat) : Bool := decide (R 9 k ≠ 0) && s.testBit (R 9 k - 1)
def lb1 (R : ST) (s k : Nat) : Bool := if s.testBit k = true then abv R s k || decide (R 5 k = 0) else !(abv R s k) || (R 0 2).testBit k
def lbn (R : ST) (s : Nat) : Nat → Bool
  | 0 => true
  | k + 1 => lbn R s k && lb1 R s k
theorem lbn_s {R : ST} {s k : Nat} : lbn R s (k + 1) = (lbn R s k && lb1 R s k) := rfl
theorem lbn_iff {R : ST} {s : Nat} : ∀ k, lbn R s k = true ↔ ∀ i, i < k → lb1 R s i = true
  | 0 => ⟨fun _ i hi => by omega, fun _ => rfl⟩
  | k + 1 => by
    rw [lbn_s, Bool.and_eq_true, lbn_iff k]
    constructor
    · rintro ⟨h1, h2⟩ i hi
      by_cases z : i = k
      · subst z; exact h2
      · exact h1 i (by omega)
    · exact fun h => ⟨fun i hi => h i (by omega), h k (by omega)⟩
def lob (R : ST) (s : Nat) : Bool := decide (s ≠ 0) && lbn R s (R 0 1)
def cnl (R : ST) (W load s : Nat) : Bool := decide (W - rW R s = load) && lob R s
theorem rW_sub {R : ST} {a b : Nat} (h : sbq a b) : rW R a ≤ rW R b := by
  have : ∀ k, rWn R a k ≤ rWn R b k := by
    intro k
    induction k with
    | zero => exact Nat.le_refl _
    | succ k ih =>
      rw [rWn_s, rWn_s]
      by_cases q : a.testBit k = true
      · rw [if_pos q, if_pos (h k q)]
        omega
      · rw [if_neg q]
        omega
  exact this _
