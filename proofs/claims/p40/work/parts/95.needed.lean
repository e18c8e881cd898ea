/-! needed: the model's table -/
def sbq (x s : Nat) : Prop := ∀ i, x.testBit i = true → s.testBit i = true
theorem sbq_iff {x s : Nat} (hx : x < 2 ^ 14) : ndn x s = 0 ↔ sbq x s := by
  rw [z_bits]
  unfold sbq
  have e : ∀ i, (ndn x s).testBit i = false ↔ (x.testBit i = true → s.testBit i = true) := fun i => by
    rw [ndn_bit (by omega)]
    cases x.testBit i <;> cases s.testBit i <;> simp
  simp only [e]
theorem sbq_and {t s y : Nat} (h : sbq t s) : t &&& (s &&& y) = t &&& y := by
  apply Nat.eq_of_testBit_eq
  intro i
  rw [Nat.testBit_and, Nat.testBit_and, Nat.testBit_and]
  cases q : t.testBit i
  · rfl
  · rw [h i q]
    rfl
theorem sbq_ndn {t s y : Nat} (ht : t < 2 ^ 14) (h : sbq t s) : ndn t (s &&& y) = ndn t y := by
  apply Nat.eq_of_testBit_eq
  intro i
  rw [ndn_bit (by omega), ndn_bit (by omega), Nat.testBit_and]
  cases q : t.testBit i
  · rfl
  · rw [h i q]
    rfl
def qi (i : Nat) : Nat := if i < 6 then i else i - 4
theorem qn_qi {i : Nat} (hi : i < 32) (h : ¬ (5 < i ∧ i < 10)) : i = qn (qi i) ∧ qi i < 28 := by
  unfold qn qi
  by_cases z : i < 6
  · rw [if_pos z, if_pos z]; omega
  · rw [if_neg z, if_neg (by omega)]; omega
theorem qi_qn {q : Nat} (hq : q < 28) : qi (qn q) = q ∧ qn q < 32 ∧ ¬ (5 < qn q ∧ qn q < 10) := by
  unfold qn qi
  by_cases z : q < 6
  · rw [if_pos z, if_pos z]; omega
  · rw [if_neg z, if_neg (by omega)]; omega
def sdm (R : ST) (s i : Nat) : Nat := if 5 < i ∧ i < 10 then 0 else s &&& yb R (qi i)
/-- one set: the least over the questions -/
def bnd (R : ST) (t i b : Nat) : Prop := 1 ≤ b ∧ b ≤ 1000000000 ∧ ∀ n, n < 1000000000 → (b ≤ n ↔ 1 ≤ n ∧ ∃ k, k < i ∧ ¬ (5 < k ∧ k < 10) ∧ enc R (n - 1) t (qi k) = true)
theorem bnd_same {R : ST} {t i b : Nat} (h : bnd R t i b) (no : ∀ m, ¬ (¬ (5 < i ∧ i < 10) ∧ enc R m t (qi i) = true)) : bnd R t (i + 1) b := by
  refine ⟨h.1, h.2.1, fun n hn => ?_⟩
  rw [h.2.2 n hn]
  constructor
  · rintro ⟨h1, k, h2, h3⟩
    exact ⟨h1, k, by omega, h3⟩
  · rintro ⟨h1, k, h2, h3⟩
    refine ⟨h1, k, ?_, h3⟩
    by_cases z : k = i
    · subst z
      exact absurd h3 (no _)
    · omega
theorem bnd_step {R : ST} {t i b va vb v : Nat} (ht : t < 2 ^ 14) (h : bnd R t i b) (hk : ¬ (5 < i ∧ i < 10)) (o1 : t &&& yb R (qi i) ≠ 0) (o2 : t &&& yb R (qi i) ≠ t) (ea : va = nv R (t &&& yb R (qi i))) (eb : vb = nv R (ndn t (yb R (qi i)))) (ev : v = if va ≤ vb then vb else va) : bnd R t (i + 1) (if v < 1000000000 ∧ v + 1 < b then v + 1 else b) := by
  obtain ⟨h1, h2, h3⟩ := h
  have c : ∀ m, m < 1000000000 → (v ≤ m ↔ enc R m t (qi i) = true) := fun m hm => by
    rw [enc_iff, ← nv_le (and14 ht) hm, ← nv_le (ndn_lt ht) hm, ← ea, ← eb]
    have : v ≤ m ↔ va ≤ m ∧ vb ≤ m := by rw [ev]; split <;> omega
    rw [this]
    exact ⟨fun z => ⟨o1, o2, z⟩, fun z => z.2.2⟩
  clear ea eb ev
  have t1 : 1 ≤ (if v < 1000000000 ∧ v + 1 < b then v + 1 else b) := by split <;> omega
  have t2 : (if v < 1000000000 ∧ v + 1 < b then v + 1 else b) ≤ 1000000000 := by split <;> omega
  refine ⟨t1, t2, fun n hn => ?_⟩
  have e : (if v < 1000000000 ∧ v + 1 < b then v + 1 else b) ≤ n ↔ b ≤ n ∨ (1 ≤ n ∧ v ≤ n - 1) := by split <;> omega
  rw [e, h3 n hn, c (n - 1) (by omega)]
  constructor
  · rintro (⟨z1, k, z2, z3⟩ | ⟨z1, z2⟩)
    · exact ⟨z1, k, by omega, z3⟩
    · exact ⟨z1, i, by omega, hk, z2⟩
  · rintro ⟨z1, k, z2, z3, z4⟩
    by_cases z : k = i
    · subst z
      exact Or.inr ⟨z1, z4⟩
    · exact Or.inl ⟨z1, k, by omega, z3, z4⟩
theorem bnd_end {R : ST} {t b : Nat} (ht : t < 2 ^ 14) (hp : 1 < pc14 t) (h : bnd R t 32 b) : b = nv R t := by
  obtain ⟨h1, h2, h3⟩ := h
  have top := nv_top (R := R) ht
  have c : ∀ n, n < 1000000000 → (b ≤ n ↔ nv R t ≤ n) := fun n hn => by
    rw [h3 n hn, nv_le ht hn]
    constructor
    · rintro ⟨z1, k, z2, z3, z4⟩
      obtain ⟨m, rfl⟩ : ∃ m, n = m + 1 := ⟨n - 1, by omega⟩
      exact enb_iff.mpr (Or.inr ⟨qi k, (qn_qi z2 z3).2, z4⟩)
    · intro z
      cases n with
      | zero =>
        have := of_decide_eq_true z
        omega
      | succ m =>
        rcases enb_iff.mp z with y | ⟨q, y1, y2⟩
        · omega
        · obtain ⟨a1, a2, a3⟩ := qi_qn y1
          refine ⟨by omega, qn q, a2, a3, ?_⟩
          rw [a1]
          exact y2
  rcases Nat.lt_or_ge b 1000000000 with q | q
  · have a := (c b q).mp (Nat.le_refl _)
    have d := (c (nv R t) (by omega)).mpr (Nat.le_refl _)
    omega
  · rcases Nat.lt_or_ge (nv R t) 1000000000 with p | p
    · have d := (c (nv R t) p).mpr (Nat.le_refl _)
      omega
    · omega
theorem ge0 {b : Nat} (h : 1 ≤ b) (hb : b < 2 ^ 31) : ¬ nI b ≤ 0 := nnle (b := 0) h hb
